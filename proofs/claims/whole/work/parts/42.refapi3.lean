/-! NUMBERS WITH A SIGN -/
def zI (x : Int) : Int32 := Int32.ofInt x
theorem zI_n (n : Nat) : zI (n : Int) = nI n := Int32.toBitVec_inj.1 (BitVec.ofInt_natCast 32 n)
theorem zI_add (a b : Int) : zI a + zI b = zI (a + b) := (Int32.ofInt_add a b).symm
theorem zI_sub (a b : Int) : zI a - zI b = zI (a - b) := (Int32.ofInt_sub a b).symm
theorem zI_neg (a : Int) : -(zI a) = zI (-a) := (Int32.ofInt_neg a).symm
theorem zI_m1 : zI (-1) = (-1 : Int32) := by decide
theorem zI_toInt {a : Int} (h1 : -1000000000 ≤ a) (h2 : a ≤ 1000000000) : (zI a).toInt = a := Int32.toInt_ofInt_of_le (by omega) (by omega)
theorem zI_eq {a b : Int} (h1 : -1000000000 ≤ a) (h2 : a ≤ 1000000000) (h3 : -1000000000 ≤ b) (h4 : b ≤ 1000000000) : zI a = zI b ↔ a = b := by
  rw [← Int32.toInt_inj, zI_toInt h1 h2, zI_toInt h3 h4]
theorem zI_lt {a b : Int} (h1 : -1000000000 ≤ a) (h2 : a ≤ 1000000000) (h3 : -1000000000 ≤ b) (h4 : b ≤ 1000000000) : zI a < zI b ↔ a < b := by
  rw [Int32.lt_iff_toInt_lt, zI_toInt h1 h2, zI_toInt h3 h4]
theorem zI_le {a b : Int} (h1 : -1000000000 ≤ a) (h2 : a ≤ 1000000000) (h3 : -1000000000 ≤ b) (h4 : b ≤ 1000000000) : zI a ≤ zI b ↔ a ≤ b := by
  rw [Int32.le_iff_toInt_le, zI_toInt h1 h2, zI_toInt h3 h4]
theorem nI_subz (a b : Nat) : nI a - nI b = zI ((a : Int) - b) := by rw [← zI_n, ← zI_n, zI_sub]
/-! how many are in a set -/
def pcN (n x : Nat) : Nat := smF n (fun p => if x.testBit p then 1 else 0)
def bcI (l0 : Int32) : Int32 :=
  let x1 := (l0 - ((ushr l0 (nI 1)) &&& (nI 1431655765)))
  let x2 := ((x1 &&& (nI 858993459)) + ((ushr x1 (nI 2)) &&& (nI 858993459)))
  let x3 := ((x2 + (ushr x2 (nI 4))) &&& (nI 252645135))
  let x4 := (x3 + (ushr x3 (nI 8)))
  let x5 := (x4 + (ushr x4 (nI 16)))
  x5 &&& (nI 63)
theorem bc_dec : ∀ x, x < 512 → bcI (nI x) = nI (pcN 9 x) := by decide +kernel
theorem sp_bitCount {X : Cx} {d x : Nat} {M : Mem} {Q : Option AV → Mem → Prop} (hx : x < 512) (h : Q (some (vI (nI (pcN 9 x)))) M) : Cl X d 0 0 m_J6_bitCount_0f7a4 [vI (nI x)] M Q := by
  refine e_J6_bitCount_0f7a4 (b_J6_bitCount_0f7a4_0 (fun x1 e1 x2 e2 x3 e3 x4 e4 x5 e5 => ?_))
  have : bcI (nI x) = x5 &&& nI 63 := by
    unfold bcI
    dsimp only
    rw [← e1, ← e2, ← e3, ← e4, ← e5]
  rw [← this, bc_dec x hx]
  exact h
/-! the parishes that stay, seats being paired in the best way -/
def mxF (f : Nat → Nat) : Nat → Nat
  | 0 => 0
  | n + 1 => max (mxF f n) (f n)
def stB (L : LandT) (c e : Nat) : Nat → Nat → Nat
  | 0, _ => 0
  | r + 1, u => mxF (fun o => if u.testBit o then 0 else pcN 9 (sOB 2 L.1 c (whL L) (L.2.1 - (r + 1)) &&& sOB 2 L.1 e (whL L) o) + stB L c e r (u ||| 2 ^ o)) L.2.1
def dsL (L : LandT) (c e : Nat) : Int := (L.1 : Int) - stB L c e L.2.1 0
theorem mxF_le {f : Nat → Nat} {b : Nat} : ∀ {n : Nat}, (∀ k, k < n → f k ≤ b) → mxF f n ≤ b
  | 0, _ => Nat.zero_le _
  | n + 1, h => by
    have := mxF_le (f := f) (n := n) (fun k hk => h k (by omega))
    have := h n (by omega)
    unfold mxF; omega
theorem pcN_le (n x : Nat) : pcN n x ≤ n := by
  have := smF_le (f := fun p => if x.testBit p then 1 else 0) (b := 1) (fun p => by split <;> omega) n
  unfold pcN; omega
theorem stB_le (L : LandT) (c e : Nat) : ∀ r u, stB L c e r u ≤ 9 * r
  | 0, u => by simp [stB]
  | r + 1, u => by
    unfold stB
    refine mxF_le (fun k _ => ?_)
    split
    · omega
    · have := pcN_le 9 (sOB 2 L.1 c (whL L) (L.2.1 - (r + 1)) &&& sOB 2 L.1 e (whL L) k)
      have := stB_le L c e r (u ||| 2 ^ k)
      omega
theorem dsL_b {L : LandT} (c e : Nat) (hO : LdOK L) : -100 ≤ dsL L c e ∧ dsL L c e ≤ 9 := by
  have := stB_le L c e L.2.1 0
  have h1 := hO.1
  have h2 := hO.2.1
  unfold dsL; omega
/-! new numbers: how the digits D are named anew, by their first parishes: the names, how many, the number -/
def rnF (D : Nat → Nat) : Nat → (Nat → Option Nat) × Nat × Nat
  | 0 => (fun _ => none, 0, 0)
  | p + 1 => match (rnF D p).1 (D p) with
    | none => (fun i => if i = D p then some (rnF D p).2.1 else (rnF D p).1 i, (rnF D p).2.1 + 1, 4 * (rnF D p).2.2 + (rnF D p).2.1)
    | some y => ((rnF D p).1, (rnF D p).2.1, 4 * (rnF D p).2.2 + y)
def mvD (L : LandT) (c par seat p : Nat) : Nat := if p = par then seat else dgB 2 L.1 c p
def mvL (L : LandT) (c par seat : Nat) : Nat := (rnF (mvD L c par seat) L.1).2.2
def cnO (f : Nat → Option Nat) : Nat → Nat
  | 0 => 0
  | n + 1 => cnO f n + if (f n).isSome then 1 else 0
theorem cnO_le (f : Nat → Option Nat) : ∀ n, cnO f n ≤ n
  | 0 => Nat.le_refl _
  | n + 1 => by have := cnO_le f n; unfold cnO; split <;> omega
theorem cnO_up {f : Nat → Option Nat} {d v : Nat} (h : f d = none) : ∀ n, cnO (fun i => if i = d then some v else f i) n = cnO f n + if d < n then 1 else 0
  | 0 => by simp [cnO]
  | n + 1 => by
    unfold cnO
    rw [cnO_up h n]
    by_cases hd : n = d
    · subst hd
      simp [h]
    · by_cases h2 : d < n
      · simp [hd, h2, show d < n + 1 by omega]; omega
      · simp [hd, h2, show ¬ d < n + 1 by omega]
theorem cnO_lt {f : Nat → Option Nat} {d : Nat} (h : f d = none) : ∀ {n}, d < n → cnO f n < n
  | 0, hd => by omega
  | n + 1, hd => by
    unfold cnO
    by_cases h2 : d = n
    · subst h2
      have := cnO_le f d
      rw [h]; simp; omega
    · have := cnO_lt h (show d < n by omega)
      split <;> omega
theorem rnF_ok {D : Nat → Nat} (hD : ∀ p, D p < 4) : ∀ p, (rnF D p).2.1 = cnO (rnF D p).1 4 ∧ (∀ i y, (rnF D p).1 i = some y → y < (rnF D p).2.1) ∧ (rnF D p).2.2 < 4 ^ p ∧ (∀ i, 4 ≤ i → (rnF D p).1 i = none)
  | 0 => ⟨rfl, (fun i y h => by cases h), (by decide : 0 < 1), (fun _ _ => rfl)⟩
  | p + 1 => by
    obtain ⟨h1, h2, h3, h4⟩ := rnF_ok hD p
    have hd := hD p
    have hle := cnO_le (rnF D p).1 4
    unfold rnF
    rw [Nat.pow_succ]
    cases hc : (rnF D p).1 (D p) with
    | none =>
      have hlt := cnO_lt hc hd
      dsimp only
      refine ⟨?_, fun i y hi => ?_, by omega, fun i hi => ?_⟩
      · rw [cnO_up hc, if_pos hd, h1]
      · split at hi
        · cases hi; omega
        · have := h2 i y hi; omega
      · rw [if_neg (by omega)]; exact h4 i hi
    | some y =>
      have := h2 _ _ hc
      dsimp only
      exact ⟨h1, h2, by omega, h4⟩
theorem mvD_lt {L : LandT} {c par seat : Nat} (hs : seat < 4) (p : Nat) : mvD L c par seat p < 4 := by
  unfold mvD
  split
  · exact hs
  · exact dgB_lt 2 L.1 c p
theorem mvL_lt {L : LandT} {c par seat : Nat} (hs : seat < 4) : mvL L c par seat < 4 ^ L.1 := (rnF_ok (mvD_lt hs) L.1).2.2.1
def blL (L : LandT) (c : Nat) : Int := (wiL L c 0 : Int) - wiL L c 1
/-- nobody betters it by one parish -/
def seS (L : LandT) (c p s : Nat) : Bool := decide (mvL L c p s ≠ c) && decide (jdL L (mvL L c p s) = 0) && decide (blL L (mvL L c p s) ≠ blL L c)
def seB (L : LandT) (c : Nat) : Bool := (List.range L.1).all (fun p => (List.range L.2.1).all (fun s => !seS L c p s))
def nrF (L : LandT) (c : Nat) : List Nat → Option (Nat × Int) → Option (Nat × Int)
  | [], b => b
  | o :: xs, none => if seB L o then nrF L c xs (some (o, dsL L c o)) else nrF L c xs none
  | o :: xs, some b => if dsL L c o < b.2 ∧ seB L o = true then nrF L c xs (some (o, dsL L c o)) else nrF L c xs (some b)
def wkX (x : Int64) : Int64 := x * 6364136223846793005 + 1442695040888963407
def wkY (x : Int64) : Nat := (wkX x).toBitVec.toNat / 2 ^ 33
def wkF (L : LandT) : Nat → Int64 → Nat → Nat
  | 0, _, c => c
  | k + 1, x, c => wkF L k (wkX x) (if jdL L (mvL L c (wkY x % L.1) (wkY x / L.1 % L.2.1)) = 0 then mvL L c (wkY x % L.1) (wkY x / L.1 % L.2.1) else c)
theorem wb_inj {a b : Int64} (h : a.toBitVec = b.toBitVec) : a = b := Int64.toBitVec_inj.mp h
theorem wb_cu : ∀ k, k < 64 → ((nI k).toInt64.toUInt64 &&& Int64.toUInt64 63) = UInt64.ofNat k := by decide +kernel
theorem lu33 (x : Int64) : lushr x (nI 33) = lN (x.toBitVec.toNat / 2 ^ 33) := by
  unfold lushr
  rw [wb_cu 33 (by decide)]
  apply wb_inj
  apply BitVec.eq_of_toNat_eq
  show (x.toUInt64 >>> UInt64.ofNat 33).toNat = (BitVec.ofNat 64 _).toNat
  rw [UInt64.toNat_shiftRight]
  have h1 : (UInt64.ofNat 33).toNat = 33 := by decide
  have h2 : x.toUInt64.toNat = x.toBitVec.toNat := rfl
  have h3 := x.toBitVec.isLt
  rw [h1, h2, BitVec.toNat_ofNat, Nat.shiftRight_eq_div_pow, Nat.mod_eq_of_lt (a := x.toBitVec.toNat / 2 ^ 33) (Nat.lt_of_le_of_lt (Nat.div_le_self _ _) h3)]
theorem wkY_lt (x : Int64) : wkY x < 2 ^ 31 := by
  unfold wkY
  have h3 := (wkX x).toBitVec.isLt
  omega
def nmS (a k : Nat) : Prop := a = 91
theorem nmS_sc {M B : Mem} (h : Fr nmS M B) : Fr scS M B := h.mono (fun a k q => by unfold nmS at q; unfold scS; omega)
theorem rH.nm {M B : Mem} {l : Nat} {L : LandT} (h : rH M l L) (hF : Fr nmS M B) : rH B l L :=
  h.fr hF (fun a i h1 h2 q => by unfold nmS at q; omega) (fun q => by unfold nmS at q; omega) (fun i q => by unfold nmS at q; omega) (fun i q => by unfold nmS at q; omega)
section API
variable {X : Cx} {d nl : Nat} {Ls : Nat → LandT} {Q : Option AV → Mem → Prop}
theorem sp_staysBy {l c e : Nat} {L : LandT} {M : Mem} (hH : rH M l L) (hc : c < 2 ^ 31) (he : e < 2 ^ 31) : ∀ (r s u d : Nat) (Q : Option AV → Mem → Prop), s + r = L.2.1 → r + 3 ≤ d → u < 2 ^ 31 → Q (some (vI (nI (stB L c e r u)))) M → Cl X d 0 0 m_X11_staysBy [vR 75, vI (nI c), vI (nI e), vI (nI s), vI (nI u)] M Q := by
  have hb := hH.b
  have h512 := p9 hb.2.1
  have hw := whL_lt L
  intro r
  induction r with
  | zero =>
    intro s u d Q hs hd hu h
    obtain rfl : s = L.2.1 := by omega
    exact e_X11_staysBy (b_X11_staysBy_0 hH.1 ⟨hH.i, fun q => absurd (by rw [hH.s]) q, fun _ => h⟩)
  | succ r ih =>
    intro s u d Q hs hd hu h
    have hop : L.2.1 - (r + 1) = s := by omega
    unfold stB at h
    rw [hop] at h
    have key : ∀ j o, o + j = L.2.1 → WA X d 0 0 m_X11_staysBy 21 [some (vR 75), some (vI (nI c)), some (vI (nI e)), some (vI (nI s)), some (vI (nI u)), some (vI (nI (mxF (fun o => if u.testBit o then 0 else pcN 9 (sOB 2 L.1 c (whL L) s &&& sOB 2 L.1 e (whL L) o) + stB L c e r (u ||| 2 ^ o)) o))), some (vI (nI o)), none] [] M Q := by
      intro j
      induction j with
      | zero =>
        intro o ho
        obtain rfl : o = L.2.1 := by omega
        exact b_X11_staysBy_21 hH.1 (by omega) ⟨hH.i, fun _ => h, fun q => absurd (by rw [hH.s, na_le (by omega) (by omega)]; omega) q⟩
      | succ j jh =>
        intro o ho
        have hn := jh (o + 1) (by omega)
        have hl1 := sOB_lt 2 L.1 c (whL L) s
        have hl2 := sOB_lt 2 L.1 e (whL L) o
        have hand : sOB 2 L.1 c (whL L) s &&& sOB 2 L.1 e (whL L) o < 512 := Nat.lt_of_le_of_lt Nat.and_le_left (by omega)
        refine b_X11_staysBy_21 hH.1 (by omega) ⟨hH.i, fun q => ?_, fun _ => ⟨fun q => ?_, fun q => ?_⟩⟩
        · rw [hH.s, na_le (by omega) (by omega)] at q; omega
        · rw [bit0 hu (by omega)] at q
          have q : u.testBit o = true := by simpa using q
          simp only [mxF, q, if_true, Nat.max_zero] at hn
          rw [nI_add]; exact hn
        · rw [bit0 hu (by omega)] at q
          refine sp_whole hH ⟨_, rfl, Ext.refl _, sp_seatOf (by omega) hH hc (by omega) (by omega) ⟨_, rfl, Ext.refl _, sp_whole hH ⟨_, rfl, Ext.refl _, sp_seatOf (by omega) hH he (by omega) (by omega) ⟨_, rfl, Ext.refl _, ?_⟩⟩⟩⟩
          rw [na_and, na_1shl (by omega), na_or]
          have h16 : 2 ^ o ≤ 2 ^ 4 := Nat.pow_le_pow_right (by decide) (by omega)
          have hu2 : u ||| 2 ^ o < 2 ^ 31 := Nat.or_lt_two_pow hu (by omega)
          refine sp_bitCount hand ⟨_, rfl, Ext.refl _, ?_⟩
          rw [nI_add]
          refine ih (s + 1) (u ||| 2 ^ o) _ _ (by omega) (by omega) hu2 ⟨_, rfl, Ext.refl _, fun x7 e7 => ?_⟩
          have b1 := pcN_le 9 (sOB 2 L.1 c (whL L) s &&& sOB 2 L.1 e (whL L) o)
          have b2 := stB_le L c e r (u ||| 2 ^ o)
          have b3 : mxF (fun o => if u.testBit o then 0 else pcN 9 (sOB 2 L.1 c (whL L) s &&& sOB 2 L.1 e (whL L) o) + stB L c e r (u ||| 2 ^ o)) o ≤ 9 + 9 * r := mxF_le (fun k _ => by
            have b4 := pcN_le 9 (sOB 2 L.1 c (whL L) s &&& sOB 2 L.1 e (whL L) k)
            have b5 := stB_le L c e r (u ||| 2 ^ k)
            split <;> omega)
          simp only [mxF, q, Bool.false_eq_true, if_false] at hn
          rw [nI_add] at e7
          generalize mxF (fun o => if u.testBit o then 0 else pcN 9 (sOB 2 L.1 c (whL L) s &&& sOB 2 L.1 e (whL L) o) + stB L c e r (u ||| 2 ^ o)) o = m0 at *
          have em : maxI (nI m0) (nI (pcN 9 (sOB 2 L.1 c (whL L) s &&& sOB 2 L.1 e (whL L) o) + stB L c e r (u ||| 2 ^ o))) = nI (max m0 (pcN 9 (sOB 2 L.1 c (whL L) s &&& sOB 2 L.1 e (whL L) o) + stB L c e r (u ||| 2 ^ o))) := by
            unfold maxI
            by_cases q : m0 < pcN 9 (sOB 2 L.1 c (whL L) s &&& sOB 2 L.1 e (whL L) o) + stB L c e r (u ||| 2 ^ o)
            · rw [if_pos ((na_lt (by omega) (by omega)).mpr q), Nat.max_eq_right (by omega)]
            · rw [if_neg (fun z => q ((na_lt (by omega) (by omega)).mp z)), Nat.max_eq_left (by omega)]
          rw [e7, em, nI_add]
          exact hn
    exact e_X11_staysBy (b_X11_staysBy_0 hH.1 ⟨hH.i, fun _ => key L.2.1 0 (by omega), fun q => absurd q (by rw [hH.s, na_eq (by omega) (by omega)]; omega)⟩)
theorem sp_apartOf {l c e : Nat} {L : LandT} {M : Mem} (hd : 9 ≤ d) (hH : rH M l L) (hc : c < 2 ^ 31) (he : e < 2 ^ 31) (h : Q (some (vI (zI (dsL L c e)))) M) : Cl X d 0 0 m_X11_apartOf [vR 75, vI (nI c), vI (nI e)] M Q := by
  have hb := hH.b
  refine e_X11_apartOf (b_X11_apartOf_0 hH.1 (by omega) ⟨hH.i, sp_staysBy hH hc he L.2.1 0 0 _ _ (by omega) (by omega) (by decide) ⟨_, rfl, Ext.refl _, ?_⟩⟩)
  rw [hH.n, nI_subz]; exact h
def aApart (nl : Nat) (Ls : Nat → LandT) (l x y : Int32) : Int32 := match lcN nl Ls l x with
  | none => -1
  | some (k, c) => match lcN nl Ls l y with
    | none => -1
    | some (_, e) => if jdL (Ls k) c = 1 ∨ jdL (Ls k) e = 1 then -1 else zI (dsL (Ls k) c e)
theorem rf_apart {l x y : Int32} {M : Mem} (hd : 10 ≤ d) (hS : RfS M) (hl : rLds M nl Ls) (h : ∀ B, Fr scS M B → Q (some (vI (aApart nl Ls l x y))) B) : Cl X d 0 0 m_X11_apart [vR 75, vI l, vI x, vI y] M Q := by
  have h6 := hl.2.1
  unfold aApart at h
  refine e_X11_apart (b_X11_apart_0 hS (by omega) (sp_judge (by omega) hS hl (fun hc => ?_) (fun k c B hc e1 e2 e3 e4 hF hH => ?_)))
  · rw [hc] at h
    refine ⟨_, rfl, Ext.refl _, rf_judge (by omega) hS hl (fun B2 hF2 => ⟨_, rfl, hF2.ext, fun _ => h B2 hF2, fun q => absurd (by decide) q⟩)⟩
  · rw [hc] at h
    dsimp only at h
    have hS2 := hS.fr hF
    have hl2 := hl.sc (prS_sc hF)
    have b1 := jdL_le (Ls k) c
    refine ⟨_, rfl, hF.ext, sp_judge (by omega) hS2 hl2 (fun hc2 => ?_) (fun k2 e B2 hc2 f1 f2 f3 f4 hF2 hH2 => ?_)⟩
    · rw [hc2] at h
      have h9 := h B (prS_sc hF)
      exact ⟨_, rfl, Ext.refl _, fun _ => h9, fun _ => ⟨fun _ => h9, fun q => absurd (by decide) q⟩⟩
    · have h9 := h B2 ((prS_sc hF).trans (prS_sc hF2))
      rw [hc2] at h9
      dsimp only at h9
      obtain rfl : k2 = k := by rw [e1] at f1; exact ((na_eq (by omega) (by omega)).mp f1).symm
      have b2 := jdL_le (Ls k2) e
      have h4 := p4 hH.b.2.1
      subst e3
      subst f3
      have neg : ∀ v : Nat, v ≤ 4 → ¬ nI v < nI 0 := fun v hv q => by rw [na_lt (by omega) (by omega)] at q; omega
      refine ⟨_, rfl, hF2.ext, fun q => absurd q (neg _ b1), fun _ => ⟨fun q => absurd q (neg _ b2), fun _ => ⟨fun q => ?_, fun q => ⟨fun q2 => ?_, fun q2 => ?_⟩⟩⟩⟩
      · rw [na_eq (by omega) (by omega)] at q
        rw [if_pos (Or.inl q)] at h9; exact h9
      · rw [na_eq (by omega) (by omega)] at q q2
        rw [if_neg (by omega)] at h9
        exact sp_apartOf (by omega) hH2 (by omega) (by omega) ⟨_, rfl, Ext.refl _, h9⟩
      · rw [na_eq (by omega) (by omega)] at q2
        rw [if_pos (Or.inr q2)] at h9; exact h9
theorem sp_moved {l c par seat : Nat} {L : LandT} {M : Mem} (hd : 2 ≤ d) (hH : rH M l L) (hc : c < 2 ^ 31) (hp : par < 2 ^ 31) (hs : seat < 4) (h : ∀ B, Fr nmS M B → Q (some (vI (nI (mvL L c par seat)))) B) : Cl X d 0 0 m_X11_moved [vR 75, vI (nI c), vI (nI par), vI (nI seat)] M Q := by
  have hb := hH.b
  have h4 := p4 hb.2.1
  have main : ∀ r p (B : Mem), p + r = L.1 → Fr nmS M B → (∀ i, i < 4 → mI B 91 i = oI ((rnF (mvD L c par seat) p).1 i)) → WA X d 0 0 m_X11_moved 32 [some (vR 75), some (vI (nI c)), some (vI (nI par)), some (vI (nI seat)), some (vI (nI (rnF (mvD L c par seat) p).2.1)), some (vI (nI (rnF (mvD L c par seat) p).2.2)), some (vI (nI p)), none] [] B Q := by
    intro r
    induction r with
    | zero =>
      intro p B hp2 hF hB
      obtain rfl : p = L.1 := by omega
      have hHB := hH.nm hF
      exact b_X11_moved_32 hHB.1 (by omega) ⟨hHB.i, fun _ => h B hF, fun q => absurd (by rw [hHB.n, na_le (by omega) (by omega)]; omega) q⟩
    | succ r ih =>
      intro p B hp2 hF hB
      have hHB := hH.nm hF
      obtain ⟨o1, o2, o3, o4⟩ := rnF_ok (mvD_lt (L := L) (c := c) (par := par) hs) p
      have hdl := mvD_lt (L := L) (c := c) (par := par) hs p
      have hcn := cnO_le (rnF (mvD L c par seat) p).1 4
      have hpw : 4 ^ p ≤ 4 ^ 9 := Nat.pow_le_pow_right (by decide) (by omega)
      have h49 : (4 : Nat) ^ 9 = 262144 := rfl
      have hn := fun B' hF' => ih (p + 1) B' (by omega) hF'
      have h63 : WA X d 0 0 m_X11_moved 63 [some (vR 75), some (vI (nI c)), some (vI (nI par)), some (vI (nI seat)), some (vI (nI (rnF (mvD L c par seat) p).2.1)), some (vI (nI (rnF (mvD L c par seat) p).2.2)), some (vI (nI p)), none] [vI (nI (mvD L c par seat p))] B Q := by
        have hin : vp_in (nI (mvD L c par seat p)) 4 := na_in hdl (by omega)
        have hx : ix (nI (mvD L c par seat p)) = mvD L c par seat p := na_ix (by omega)
        refine b_X11_moved_63 hHB.1 ⟨hin, fun q => ?_, fun q => ⟨hin, fun M1 e1 => ?_⟩⟩
        · rw [hx, hB _ hdl] at q
          cases hcase : (rnF (mvD L c par seat) p).1 (mvD L c par seat p) with
          | none => rw [hcase] at q; exact absurd rfl q
          | some y =>
            refine b_X11_moved_88 hHB.1 ⟨hin, fun x1 e1 => ?_⟩
            rw [hx, hB _ hdl, hcase, show oI (some y) = nI y from rfl, pk_mul, nI_add] at e1
            have := hn B hF
            simp only [rnF, hcase] at this
            rw [e1, nI_add]
            exact this hB
        · rw [hx, hB _ hdl] at q
          rw [hx] at e1
          cases hcase : (rnF (mvD L c par seat) p).1 (mvD L c par seat p) with
          | some y => have := o2 _ _ hcase; rw [hcase] at q; exact absurd q (na_m1 (a := y) (by omega))
          | none =>
            have hF1 : Fr nmS M M1 := by rw [e1]; exact hF.trans (Fr.sI rfl)
            refine b_X11_moved_88 (hH.nm hF1).1 ⟨hin, fun x1 ex => ?_⟩
            rw [hx, e1, mI_sI_eq, pk_mul, nI_add] at ex
            have := hn M1 hF1
            simp only [rnF, hcase] at this
            rw [ex, nI_add, nI_add]
            refine this (fun i hi => ?_)
            rw [e1, mI_sI]
            by_cases hi2 : i = mvD L c par seat p
            · rw [if_pos ⟨rfl, hi2⟩, if_pos hi2]; rfl
            · rw [if_neg (fun z => hi2 z.2), if_neg hi2]; exact hB i hi
      refine b_X11_moved_32 hHB.1 (by omega) ⟨hHB.i, fun q => ?_, fun _ => ⟨fun q => ?_, fun q => ?_⟩⟩
      · rw [hHB.n, na_le (by omega) (by omega)] at q; omega
      · rw [na_eq (by omega) (by omega)] at q
        refine sp_digit hHB hc (by omega) ⟨_, rfl, Ext.refl _, ?_⟩
        have e : mvD L c par seat p = dgB 2 L.1 c p := if_neg q
        rw [e] at h63; exact h63
      · rw [na_eq (by omega) (by omega)] at q
        have e : mvD L c par seat p = seat := if_pos q
        rw [e] at h63; exact h63
  have init : ∀ r s (B : Mem), s + r = 4 → Fr nmS M B → (∀ i, i < s → mI B 91 i = (-1)) → WA X d 0 0 m_X11_moved 3 [some (vR 75), some (vI (nI c)), some (vI (nI par)), some (vI (nI seat)), some (vI (nI s)), none, none, none] [] B Q := by
    intro r
    induction r with
    | zero =>
      intro s B hs2 hF hB
      obtain rfl : s = 4 := by omega
      exact b_X11_moved_3 (hH.nm hF).1 ⟨fun _ => main L.1 0 B (by omega) hF (fun i hi => hB i hi), fun q => absurd (by decide) q⟩
    | succ r ih =>
      intro s B hs2 hF hB
      refine b_X11_moved_3 (hH.nm hF).1 ⟨fun q => ?_, fun _ => ⟨na_in (by omega) (by omega), fun M1 e1 => ?_⟩⟩
      · rw [na_le (by omega) (by omega)] at q; omega
      · rw [na_ix (by omega)] at e1
        rw [nI_add]
        refine ih (s + 1) M1 (by omega) (by rw [e1]; exact hF.trans (Fr.sI rfl)) (fun i hi => ?_)
        rw [e1, mI_sI]
        by_cases hi2 : i = s
        · rw [if_pos ⟨rfl, hi2⟩]
        · rw [if_neg (fun z => hi2 z.2)]; exact hB i (by omega)
  exact e_X11_moved (b_X11_moved_0 hH.1 (init 4 0 M (by omega) Fr.refl (fun i hi => by omega)))
theorem sp_balance {l c : Nat} {L : LandT} {M : Mem} (hd : 3 ≤ d) (hH : rH M l L) (hc : c < 2 ^ 31) (hx : nuF 2 L.1 c (whL L) L.1 = some L.2.1) (h : Q (some (vI (zI (blL L c)))) M) : Cl X d 0 0 m_X11_balance [vR 75, vI (nI c)] M Q := by
  refine e_X11_balance (b_X11_balance_0 hH.1 (by omega) (sp_wins (by omega) hH hc (by omega) hx ⟨_, rfl, Ext.refl _, sp_wins (by omega) hH hc (by omega) hx ⟨_, rfl, Ext.refl _, ?_⟩⟩))
  rw [nI_subz]; exact h
theorem blL_b {L : LandT} (hO : LdOK L) (c : Nat) : -4 ≤ blL L c ∧ blL L c ≤ 4 := by
  have := wiL_le L c 0
  have := wiL_le L c 1
  have := hO.2.1.2.1
  unfold blL; omega
theorem sp_isSettled {l c : Nat} {L : LandT} {M : Mem} (hd : 4 ≤ d) (hH : rH M l L) (hc : c < 4 ^ L.1) (hx : nuF 2 L.1 c (whL L) L.1 = some L.2.1) (h : ∀ B, Fr nmS M B → Q (some (vI (bI (seB L c)))) B) : Cl X d 0 0 m_X11_isSettled [vR 75, vI (nI c)] M Q := by
  have hb := hH.b
  have h4 := p4 hb.2.1
  have hO := hH.2.2.2.1
  have outer : ∀ r p (B : Mem), p + r = L.1 → Fr nmS M B → (∀ p' s', p' < p → s' < L.2.1 → seS L c p' s' = false) → WA X d 0 0 m_X11_isSettled 2 [some (vR 75), some (vI (nI c)), some (vI (nI p)), none, none] [] B Q := by
    intro r
    induction r with
    | zero =>
      intro p B hp hF hall
      obtain rfl : p = L.1 := by omega
      have hHB := hH.nm hF
      have : seB L c = true := by
        unfold seB
        rw [List.all_eq_true]
        intro p' hp'
        rw [List.all_eq_true]
        intro s' hs'
        rw [hall p' s' (List.mem_range.mp hp') (List.mem_range.mp hs')]; rfl
      rw [this] at h
      exact b_X11_isSettled_2 hHB.1 ⟨hHB.i, fun _ => h B hF, fun q => absurd (by rw [hHB.n, na_le (by omega) (by omega)]; omega) q⟩
    | succ r ih =>
      intro p B hp hF hall
      have inner : ∀ j s (B : Mem), s + j = L.2.1 → Fr nmS M B → (∀ s', s' < s → seS L c p s' = false) → WA X d 0 0 m_X11_isSettled 17 [some (vR 75), some (vI (nI c)), some (vI (nI p)), some (vI (nI s)), none] [] B Q := by
        intro j
        induction j with
        | zero =>
          intro s B hs hF hall2
          obtain rfl : s = L.2.1 := by omega
          have hHB := hH.nm hF
          refine b_X11_isSettled_17 hHB.1 (by omega) ⟨hHB.i, fun _ => ?_, fun q => absurd (by rw [hHB.s, na_le (by omega) (by omega)]; omega) q⟩
          rw [nI_add]
          refine ih (p + 1) B (by omega) hF (fun p' s' hp' hs' => ?_)
          rcases (show p' < p ∨ p' = p by omega) with q | q
          · exact hall p' s' q hs'
          · rw [q]; exact hall2 s' hs'
        | succ j jh =>
          intro s B hs hF hall2
          have hHB := hH.nm hF
          have hmv := mvL_lt (L := L) (c := c) (par := p) (show s < 4 by omega)
          have next : ∀ B', Fr nmS M B' → seS L c p s = false → WA X d 0 0 m_X11_isSettled 17 [some (vR 75), some (vI (nI c)), some (vI (nI p)), some (vI (nI s + nI 1)), none] [] B' Q := fun B' hF' he => by
            rw [nI_add]
            refine jh (s + 1) B' (by omega) hF' (fun s' hs' => ?_)
            rcases (show s' < s ∨ s' = s by omega) with q | q
            · exact hall2 s' q
            · rw [q]; exact he
          refine b_X11_isSettled_17 hHB.1 (by omega) ⟨hHB.i, fun q => ?_, fun _ => sp_moved (by omega) hHB (by omega) (by omega) (by omega) (fun B1 hF1 => ⟨_, rfl, hF1.ext, fun q => ?_, fun q => ?_⟩)⟩
          · rw [hHB.s, na_le (by omega) (by omega)] at q; omega
          · rw [na_eq (by omega) (by omega)] at q
            exact next B1 (hF.trans hF1) (by unfold seS; simp [q])
          · rw [na_eq (by omega) (by omega)] at q
            have hH1 := hHB.nm hF1
            have bj := jdL_le L (mvL L c p s)
            refine sp_judged (by omega) hH1 (by omega) ⟨_, rfl, Ext.refl _, fun q2 => ?_, fun q2 => ?_⟩
            · rw [na_eq (by omega) (by omega)] at q2
              exact next B1 (hF.trans hF1) (by unfold seS; simp [q2])
            · rw [na_eq (by omega) (by omega)] at q2
              have x1 := blL_b hO (mvL L c p s)
              have x2 := blL_b hO c
              refine sp_balance (by omega) hH1 (by omega) (jdL_0 q2) ⟨_, rfl, Ext.refl _, sp_balance (by omega) hH1 (by omega) hx ⟨_, rfl, Ext.refl _, fun q3 => ?_, fun q3 => ?_⟩⟩
              · rw [zI_eq (by omega) (by omega) (by omega) (by omega)] at q3
                exact next B1 (hF.trans hF1) (by unfold seS; simp [q3])
              · rw [zI_eq (by omega) (by omega) (by omega) (by omega)] at q3
                have hs1 : seS L c p s = true := by unfold seS; simp [q, q2, q3]
                have : seB L c = false := by
                  cases hz : seB L c with
                  | false => rfl
                  | true =>
                    unfold seB at hz
                    rw [List.all_eq_true] at hz
                    have := hz p (List.mem_range.mpr (by omega))
                    rw [List.all_eq_true] at this
                    have := this s (List.mem_range.mpr (by omega))
                    rw [hs1] at this; cases this
                rw [this] at h
                exact h B1 (hF.trans hF1)
      have hHB := hH.nm hF
      refine b_X11_isSettled_2 hHB.1 ⟨hHB.i, fun q => ?_, fun _ => inner L.2.1 0 B (by omega) hF (fun s' hs' => by omega)⟩
      rw [hHB.n, na_le (by omega) (by omega)] at q; omega
  exact e_X11_isSettled (b_X11_isSettled_0 hH.1 (outer L.1 0 M (by omega) Fr.refl (fun p' s' hp' _ => by omega)))
def aSettled (nl : Nat) (Ls : Nat → LandT) (l x : Int32) : Int32 := match wlN nl Ls l x with
  | none => -1
  | some (k, c) => bI (seB (Ls k) c)
theorem rf_settled {l x : Int32} {M : Mem} (hd : 6 ≤ d) (hS : RfS M) (hl : rLds M nl Ls) (h : ∀ B, Fr scS M B → Q (some (vI (aSettled nl Ls l x))) B) : Cl X d 0 0 m_X11_settled [vR 75, vI l, vI x] M Q := by
  unfold aSettled at h
  refine e_X11_settled (b_X11_settled_0 hS (by omega) (sp_isWell (by omega) hS hl (fun hc B hF => ⟨_, rfl, hF.ext, fun _ => ?_, fun q => absurd rfl q⟩) (fun k c B hc e1 e2 e3 e4 hj hF hH => ⟨_, rfl, hF.ext, fun q => absurd q (by decide), fun _ => ?_⟩)))
  · rw [hc] at h; exact h B (prS_sc hF)
  · rw [hc] at h
    dsimp only at h
    subst e3
    refine sp_isSettled (by omega) hH e4 (jdL_0 hj) (fun B2 hF2 => ⟨_, rfl, hF2.ext, fun q => ?_, fun q => ?_⟩)
    · have h9 := h B2 ((prS_sc hF).trans (nmS_sc hF2))
      rw [bI_0.mp q] at h9; exact h9
    · have h9 := h B2 ((prS_sc hF).trans (nmS_sc hF2))
      rw [bI_n0.mp q] at h9; exact h9
def aNear (nl : Nat) (Ls : Nat → LandT) (l x : Int32) : Int32 := match lcN nl Ls l x with
  | none => -1
  | some (k, c) => if jdL (Ls k) c = 1 then -1 else match nrF (Ls k) c (lsL (Ls k) (whL (Ls k)) (Ls k).2.1) none with
    | none => -1
    | some b => nI b.1
theorem rf_near {l x : Int32} {M : Mem} (hd : 14 ≤ d) (hS : RfS M) (hl : rLds M nl Ls) (h : ∀ B, Fr scS M B → Q (some (vI (aNear nl Ls l x))) B) : Cl X d 0 0 m_X11_near [vR 75, vI l, vI x] M Q := by
  unfold aNear at h
  refine e_X11_near (b_X11_near_0 hS (by omega) (sp_judge (by omega) hS hl (fun hc => ⟨_, rfl, Ext.refl _, fun _ => ?_, fun q => absurd (by decide) q⟩) (fun k c B hc e1 e2 e3 e4 hF hH => ⟨_, rfl, hF.ext, fun q => ?_, fun _ => ⟨fun q => ?_, fun q => ?_⟩⟩)))
  · rw [hc] at h; exact h M Fr.refl
  · have b1 := jdL_le (Ls k) c
    rw [na_lt (by omega) (by omega)] at q; omega
  · rw [hc] at h
    dsimp only at h
    have b1 := jdL_le (Ls k) c
    rw [na_eq (by omega) (by omega)] at q
    rw [if_neg q] at h
    subst e1
    subst e3
    have hO := hH.2.2.2.1
    have h4 := p4 hO.1.2
    have hs4 := hO.2.1.2.1
    refine sp_listAll (by omega) (hS.fr hF) (hl.sc (prS_sc hF)) e2 (fun B2 hF2 hH2 hst => ⟨_, rfl, hF2.ext, ?_⟩)
    have hlen := lsL_len (L := Ls k) (o := whL (Ls k)) hO.1.2 hO.2.1.2.1
    have hok : ∀ c, c ∈ lsL (Ls k) (whL (Ls k)) (Ls k).2.1 → c < 4 ^ (Ls k).1 ∧ nuF 2 (Ls k).1 c (whL (Ls k)) (Ls k).1 = some (Ls k).2.1 := fun c hc => ⟨(lsL_ok hO.2.1.2.1 hc).1, (lsL_ok hO.2.1.2.1 hc).2.1⟩
    have hfin := fun B3 hF3 => h B3 (((prS_sc hF).trans hF2).trans hF3)
    revert hst hlen hok hfin
    generalize lsL (Ls k) (whL (Ls k)) (Ls k).2.1 = ys
    intro hst hlen hok hfin
    have key : ∀ (xs pre : List Nat) (b : Option (Nat × Int)) (f0 : Int32) (B3 : Mem), ys = pre ++ xs → Fr nmS B2 B3 → (∀ q, b = some q → f0 = zI q.2 ∧ -100 ≤ q.2 ∧ q.2 ≤ 9 ∧ q.1 < 2 ^ 31) → nrF (Ls k) c xs b = nrF (Ls k) c ys none →
        WA X d 0 0 m_X11_near 34 [some (vR 75), none, some (vI (nI c)), none, some (vI (nI ys.length)), some (vI (oI (b.map (·.1)))), some (vI f0), some (vI (nI pre.length)), none, none] [] B3 Q := by
      intro xs
      induction xs with
      | nil =>
        intro pre b f0 B3 hys hF3 hb he
        have hl9 : ys.length = pre.length := by rw [hys]; simp
        have hHB := hH2.nm hF3
        refine b_X11_near_34 hHB.1 (by omega) ⟨fun _ => ?_, fun q9 => absurd (by rw [na_le (by omega) (by omega)]; omega) q9⟩
        have h9 := hfin B3 (nmS_sc hF3)
        rw [← he] at h9
        cases b with
        | none => exact h9
        | some b => exact h9
      | cons o xs ih =>
        intro pre b f0 B3 hys hF3 hb he
        have hHB := hH2.nm hF3
        have hpl : ys[pre.length]? = some o := by rw [hys]; simp
        have hlt := (List.getElem?_eq_some_iff.mp hpl).1
        have hys2 : ys = (pre ++ [o]) ++ xs := by rw [hys]; simp
        have hpl2 : (pre ++ [o]).length = pre.length + 1 := by simp
        obtain ⟨o1, o2⟩ := hok o (by rw [hys]; simp)
        have e := hst _ _ hpl
        rw [Nat.zero_add] at e
        have e : mI B3 89 pre.length = nI o := by rw [hF3.at (by unfold nmS; omega)]; exact e
        obtain ⟨d1, d2⟩ := dsL_b c o hO
        have hn := fun b' f' B' => ih (pre ++ [o]) b' f' B' hys2
        rw [hpl2] at hn
        -- a look at whether it is settled
        have h72 : (b = none ∨ ∃ q, b = some q ∧ dsL (Ls k) c o < q.2) → WA X d 0 0 m_X11_near 72 [some (vR 75), none, some (vI (nI c)), none, some (vI (nI ys.length)), some (vI (oI (b.map (·.1)))), some (vI f0), some (vI (nI pre.length)), some (vI (nI o)), some (vI (zI (dsL (Ls k) c o)))] [] B3 Q := by
          intro hcase
          refine b_X11_near_72 hHB.1 (by omega) (sp_isSettled (by omega) hHB o1 o2 (fun B4 hF4 => ⟨_, rfl, hF4.ext, fun q => ?_, fun q => ?_⟩))
          · have q := bI_0.mp q
            rw [nI_add]
            refine hn b f0 B4 (hF3.trans hF4) hb ?_
            rw [← he]
            cases b with
            | none => simp only [nrF, q, Bool.false_eq_true, if_false]
            | some b => simp only [nrF, q, Bool.false_eq_true, and_false, if_false]
          · have q := bI_n0.mp q
            rw [nI_add]
            have := hn (some (o, dsL (Ls k) c o)) (zI (dsL (Ls k) c o)) B4 (hF3.trans hF4) (fun q9 e9 => by cases e9; exact ⟨rfl, d1, d2, by dsimp only; omega⟩) (by
              rw [← he]
              cases b with
              | none => simp only [nrF, q, if_true]
              | some b =>
                rcases hcase with z | ⟨q9, z1, z2⟩
                · cases z
                · cases z1
                  simp only [nrF, q, z2, and_self, if_true])
            exact this
        refine b_X11_near_34 hHB.1 (by omega) ⟨fun q9 => ?_, fun _ => ⟨na_in (by omega) (by omega), fun x1 ex => ?_⟩⟩
        · rw [na_le (by omega) (by omega)] at q9; omega
        rw [na_ix (by omega), e] at ex
        subst ex
        refine sp_apartOf (by omega) hHB (by omega) (by omega) ⟨_, rfl, Ext.refl _, fun q9 => ?_, fun q9 => ⟨fun q8 => ?_, fun q8 => ?_⟩⟩
        · cases b with
          | none => exact h72 (Or.inl rfl)
          | some b => exact absurd q9 (na_m1 (a := b.1) (hb b rfl).2.2.2)
        · cases b with
          | none => exact absurd rfl q9
          | some b =>
            obtain ⟨z1, z2, z3, z4⟩ := hb b rfl
            rw [z1, zI_le (by omega) (by omega) (by omega) (by omega)] at q8
            rw [nI_add]
            refine hn (some b) f0 B3 hF3 hb ?_
            rw [← he]
            simp only [nrF, show ¬ dsL (Ls k) c o < b.2 by omega, false_and, if_false]
        · cases b with
          | none => exact absurd rfl q9
          | some b =>
            obtain ⟨z1, z2, z3, z4⟩ := hb b rfl
            rw [z1, zI_le (by omega) (by omega) (by omega) (by omega)] at q8
            exact h72 (Or.inr ⟨b, rfl, by omega⟩)
    exact key ys [] none (nI 0) B2 rfl Fr.refl (fun q e => by cases e) rfl
  · rw [hc] at h
    dsimp only at h
    have b1 := jdL_le (Ls k) c
    rw [na_eq (by omega) (by omega)] at q
    rw [if_pos q] at h
    exact h B (prS_sc hF)
def aWalk (nl : Nat) (Ls : Nat → LandT) (l x : Int32) (sd : Int64) (n : Int32) : Int32 := match inN n 501 with
  | none => -1
  | some m => match wlN nl Ls l x with
    | none => -1
    | some (k, c) => nI (wkF (Ls k) m sd c)
theorem rf_walk {l x n : Int32} {sd : Int64} {M : Mem} (hd : 6 ≤ d) (hS : RfS M) (hl : rLds M nl Ls) (h : ∀ B, Fr scS M B → Q (some (vI (aWalk nl Ls l x sd n))) B) : Cl X d 0 0 m_X11_walk [vR 75, vI l, vI x, vJ sd, vI n] M Q := by
  unfold aWalk at h
  refine e_X11_walk (b_X11_walk_0 hS (by omega) (sp_inN (n := 501) (by decide) (by decide) ⟨_, rfl, Ext.refl _, fun q => ?_, fun q => ?_⟩))
  · have := bI_0.mp q
    cases hp : inN n 501 with
    | none => rw [hp] at h; exact h M Fr.refl
    | some j => rw [hp] at this; cases this
  have := bI_n0.mp q
  cases hp : inN n 501 with
  | none => rw [hp] at this; cases this
  | some m =>
  rw [hp] at h
  dsimp only at h
  obtain ⟨g1, g2⟩ := inN_some (by omega) hp
  subst g1
  refine sp_isWell (by omega) hS hl (fun hc B hF => ⟨_, rfl, hF.ext, fun q => absurd rfl q, fun _ => ?_⟩) (fun k c B hc e1 e2 e3 e4 hj hF hH => ⟨_, rfl, hF.ext, fun _ => ?_, fun q => absurd q (by decide)⟩)
  · rw [hc] at h; exact h B (prS_sc hF)
  rw [hc] at h
  dsimp only at h
  subst e1
  subst e3
  have hb := hH.b
  have h4 := p4 hb.2.1
  have hl6 := hH.2.1
  have key : ∀ (r i : Nat) (s : Int64) (e : Nat) (B2 : Mem), i + r = m → Fr nmS B B2 → e < 4 ^ (Ls k).1 → wkF (Ls k) r s e = wkF (Ls k) m sd c → WA X d 0 0 m_X11_walk 32 [some (vR 75), some (vI (nI k)), none, none, none, some (vI (nI m)), some (vI (nI e)), some (vJ s), none, some (vI (nI i)), none, none, none] [] B2 Q := by
    intro r
    induction r with
    | zero =>
      intro i s e B2 hi hF2 he hw
      have hHB := hH.nm hF2
      refine b_X11_walk_32 hHB.1 (by omega) ⟨fun _ => ?_, fun q => absurd (by rw [na_le (by omega) (by omega)]; omega) q⟩
      have h9 := h B2 ((prS_sc hF).trans (nmS_sc hF2))
      rw [← hw] at h9; exact h9
    | succ r ih =>
      intro i s e B2 hi hF2 he hw
      have hHB := hH.nm hF2
      have hin : vp_in (nI k) 7 := na_in hl6 (by omega)
      have hx : ix (nI k) = k := na_ix (by omega)
      have hy := wkY_lt s
      have e62 : Int32.toInt64 (mI B2 77 (ix (nI k))) = lN (Ls k).1 := by rw [hx, hHB.2.2.1.1, nI_l (by omega)]
      have e63 : Int32.toInt64 (mI B2 78 (ix (nI k))) = lN (Ls k).2.1 := by rw [hx, hHB.2.2.1.2.1, nI_l (by omega)]
      have z0 : ∀ v : Nat, 0 < v → v < 2 ^ 31 → ¬ lN v = 0 := fun v h1 h2 z => by rw [show (0 : Int64) = lN 0 from rfl, lN_eq (by omega) (by omega)] at z; omega
      have elu : lushr (s * 6364136223846793005 + 1442695040888963407) (nI 33) = lN (wkY s) := lu33 (wkX s)
      have hdiv : wkY s / (Ls k).1 < 2 ^ 31 := Nat.lt_of_le_of_lt (Nat.div_le_self _ _) hy
      have m1 := Nat.mod_lt (wkY s) (show 0 < (Ls k).1 by omega)
      have m2 := Nat.mod_lt (wkY s / (Ls k).1) (show 0 < (Ls k).2.1 by omega)
      rw [wkF] at hw
      refine b_X11_walk_32 hHB.1 (by omega) ⟨fun q => ?_, fun _ => ?_⟩
      · rw [na_le (by omega) (by omega)] at q; omega
      rw [e62, e63, elu, pk_lRem (by omega) (by omega) (by omega), pk_lDiv (by omega) (by omega) (by omega), pk_lRem (by omega) (by omega) (by omega), lN_i, lN_i]
      refine ⟨hin, z0 _ (by omega) (by omega), hin, z0 _ (by omega) (by omega), hin, z0 _ (by omega) (by omega), ?_⟩
      have hmv := mvL_lt (L := Ls k) (c := e) (par := wkY s % (Ls k).1) (show wkY s / (Ls k).1 % (Ls k).2.1 < 4 by omega)
      refine sp_moved (by omega) hHB (by omega) (by omega) (by omega) (fun B3 hF3 => ⟨_, rfl, hF3.ext, ?_⟩)
      have bj := jdL_le (Ls k) (mvL (Ls k) e (wkY s % (Ls k).1) (wkY s / (Ls k).1 % (Ls k).2.1))
      refine sp_judged (by omega) (hHB.nm hF3) (by omega) ⟨_, rfl, Ext.refl _, fun q => ?_, fun q => ?_⟩
      · rw [na_eq (by omega) (by omega)] at q
        rw [if_neg q] at hw
        rw [nI_add]
        exact ih (i + 1) (wkX s) e B3 (by omega) (hF2.trans hF3) he hw
      · rw [na_eq (by omega) (by omega)] at q
        rw [if_pos q] at hw
        rw [nI_add]
        exact ih (i + 1) (wkX s) _ B3 (by omega) (hF2.trans hF3) hmv hw
  exact key m 0 sd c B (by omega) Fr.refl e4 rfl
end API
