/-! THE CLASS: a land and its tables -/
/-- what fails of a set that may be empty -/
def flB (L : LandT) (s : Nat) : Nat := if s = 0 then 2 else faL L s
def lwB (L : LandT) (s : Nat) : Bool := decide (flB L s = 0)
def owL (L : LandT) (p : Nat) : Nat := LdV L p 0 + 1024 * LdV L p 1 + 1048576 * LdV L p 2
def ttL (L : LandT) (s : Nat) : Nat := smF L.1 (fun p => if s.testBit p then owL L p else 0)
/-- a land of the class, all but what the votes make -/
def laC (M : Mem) (a : Nat) (L : LandT) : Prop := LaS M a ∧ (mN M (a + 5) = 2 ^ L.1 ∧ mN M (a + 6) = 2 ^ L.1 ∧ mN M (a + 7) = 2 ^ L.1 ∧ mN M (a + 8) = 2 ^ L.1) ∧ (mI M a 0 = nI L.1 ∧ mI M a 1 = nI L.2.1 ∧ mI M a 2 = nI L.2.2.1 ∧ mI M a 3 = nI L.2.2.2.1 ∧ mI M a 4 = nI (2 ^ L.1 - 1)) ∧
  (∀ p, p < 9 → ∀ k, k < 3 → mI M (a + 2) (3 * p + k) = nI (LdV L p k)) ∧ (∀ p, p < L.1 → mI M (a + 3) p = nI (LdB L p) ∧ mI M (a + 4) p = nI (clo (LdT L) L.1 (2 ^ p))) ∧ (∀ s, s < 2 ^ L.1 → mI M (a + 7) s = nI (haF (hgB L) L.1 0 s)) ∧ mI M (a + 5) 0 = nI 0
/-- its tables fit its votes -/
def laF (M : Mem) (a : Nat) (L : LandT) : Prop := ∀ s, s < 2 ^ L.1 → mI M (a + 5) s = nI (ttL L s) ∧ mI M (a + 6) s = nI (wnL L s) ∧ mI M (a + 8) s = nI (haF (lwB L) L.1 0 s)
def rwS (a b k : Nat) : Prop := (b = a + 5 ∧ k ≠ 0) ∨ b = a + 6 ∨ b = a + 8 ∨ (b = a + 9 ∧ k = 3) ∨ (b = a ∧ k = 14)
theorem mN_fr {S : Nat → Nat → Prop} {M B : Mem} (hF : Fr S M B) (b : Nat) : mN B b = mN M b := by unfold mN; rw [hF.2]
theorem laC.fr {S : Nat → Nat → Prop} {M B : Mem} {a : Nat} {L : LandT} (h : laC M a L) (hF : Fr S M B) (h1 : ∀ k, k ≤ 4 → ¬ S a k) (h2 : ∀ k, ¬ S (a + 2) k ∧ ¬ S (a + 3) k ∧ ¬ S (a + 4) k ∧ ¬ S (a + 7) k) (h3 : ¬ S (a + 5) 0) : laC B a L := by
  obtain ⟨g1, ⟨g2, g3, g4, g5⟩, ⟨k0, k1, k2, k3, k4⟩, g6, g7, g8, g9⟩ := h
  exact ⟨g1.ext hF.ext, ⟨(mN_fr hF _).trans g2, (mN_fr hF _).trans g3, (mN_fr hF _).trans g4, (mN_fr hF _).trans g5⟩, ⟨(hF.at (h1 0 (by decide))).trans k0, (hF.at (h1 1 (by decide))).trans k1, (hF.at (h1 2 (by decide))).trans k2, (hF.at (h1 3 (by decide))).trans k3, (hF.at (h1 4 (by decide))).trans k4⟩, fun p hp k hk => (hF.at (h2 _).1).trans (g6 p hp k hk), fun p hp => ⟨(hF.at (h2 _).2.1).trans (g7 p hp).1, (hF.at (h2 _).2.2.1).trans (g7 p hp).2⟩, fun s hs => (hF.at (h2 _).2.2.2).trans (g8 s hs), (hF.at h3).trans g9⟩
theorem laC.rw {M B : Mem} {a : Nat} {L : LandT} (h : laC M a L) (hF : Fr (rwS a) M B) : laC B a L := h.fr hF (fun k hk q => by unfold rwS at q; omega) (fun k => ⟨fun q => by unfold rwS at q; omega, fun q => by unfold rwS at q; omega, fun q => by unfold rwS at q; omega, fun q => by unfold rwS at q; omega⟩) (fun q => by unfold rwS at q; omega)
theorem smF_add (f g : Nat → Nat) : ∀ n, smF n (fun p => f p + g p) = smF n f + smF n g
  | 0 => rfl
  | n + 1 => by
    show smF n (fun p => f p + g p) + (f n + g n) = _
    rw [smF_add f g n]
    show _ = smF n f + f n + (smF n g + g n)
    omega
theorem smF_mul (c : Nat) (f : Nat → Nat) : ∀ n, smF n (fun p => c * f p) = c * smF n f
  | 0 => rfl
  | n + 1 => by
    show smF n (fun p => c * f p) + c * f n = c * (smF n f + f n)
    rw [smF_mul c f n, Nat.mul_add]
theorem smF_cong {f g : Nat → Nat} (h : ∀ p, f p = g p) (n : Nat) : smF n f = smF n g := by rw [show f = g from funext h]
theorem ttL_eq (L : LandT) (s : Nat) : ttL L s = vtL L 0 s + 1024 * vtL L 1 s + 1048576 * vtL L 2 s := by
  unfold ttL vtL
  rw [← smF_mul, ← smF_mul, ← smF_add, ← smF_add]
  refine smF_cong (fun p => ?_) _
  unfold owL
  split <;> omega
theorem hdL_eq (L : LandT) (s : Nat) : hdL L s = vtL L 0 s + vtL L 1 s + vtL L 2 s := by
  unfold hdL vtL
  rw [← smF_add, ← smF_add]
  refine smF_cong (fun p => ?_) _
  split <;> omega
theorem smF_ins {f : Nat → Nat} {s p : Nat} (hs : s.testBit p = false) : ∀ n, smF n (fun q => if (s ||| 2 ^ p).testBit q then f q else 0) = smF n (fun q => if s.testBit q then f q else 0) + (if p < n then f p else 0)
  | 0 => rfl
  | n + 1 => by
    show smF n _ + (if (s ||| 2 ^ p).testBit n then f n else 0) = smF n _ + (if s.testBit n then f n else 0) + _
    rw [smF_ins hs n, tb_ins]
    by_cases hp : n = p
    · subst hp
      rw [hs, if_neg (show ¬ n < n by omega), if_pos (show n < n + 1 by omega)]; simp
    · rw [decide_eq_false hp, Bool.or_false]
      by_cases hlt : p < n
      · rw [if_pos hlt, if_pos (show p < n + 1 by omega)]; omega
      · rw [if_neg hlt, if_neg (show ¬ p < n + 1 by omega)]; omega
theorem ttL_ins {L : LandT} {s p : Nat} (hp : p < L.1) (hs : s < 2 ^ p) : ttL L (s ||| 2 ^ p) = ttL L s + owL L p := by
  unfold ttL
  rw [smF_ins (tbF hs (Nat.le_refl _)), if_pos hp]
theorem ttL_0 (L : LandT) : ttL L 0 = 0 := by
  unfold ttL
  rw [smF_cong (g := fun _ => 0) (fun p => by rw [Nat.zero_testBit]; rfl)]
  have := smF_mul 0 (fun _ => 0) L.1
  simp only [Nat.zero_mul] at this
  exact this
theorem own_or {L : LandT} {p : Nat} (hv : ∀ k, LdV L p k ≤ 99) : (nI (LdV L p 0) ||| shl (nI (LdV L p 1)) (nI 10)) ||| shl (nI (LdV L p 2)) (nI 20) = nI (owL L p) := by
  have v0 := hv 0
  have v1 := hv 1
  have v2 := hv 2
  rw [na_shl _ (by decide), na_shl _ (by decide), na_or, na_or]
  congr 1
  rw [Nat.or_comm (LdV L p 0), ← Nat.shiftLeft_add_eq_or_of_lt (show LdV L p 0 < 2 ^ 10 by omega), Nat.or_comm _ (LdV L p 2 <<< 20), ← Nat.shiftLeft_add_eq_or_of_lt (b := LdV L p 1 <<< 10 + LdV L p 0) (i := 20) (by rw [Nat.shiftLeft_eq]; omega), Nat.shiftLeft_eq, Nat.shiftLeft_eq]
  unfold owL
  omega
theorem wnL_eq (L : LandT) (s : Nat) : wnL L s = if vtL L 1 s < vtL L 0 s ∧ vtL L 2 s < vtL L 0 s then 0 else if vtL L 0 s < vtL L 1 s ∧ vtL L 2 s < vtL L 1 s then 1 else if vtL L 0 s < vtL L 2 s ∧ vtL L 1 s < vtL L 2 s then 2 else 3 := by
  unfold wnL wnS
  dsimp only
  generalize vtL L 0 s = x
  generalize vtL L 1 s = y
  generalize vtL L 2 s = z
  have m0 : max 0 x = x := Nat.max_eq_right (Nat.zero_le _)
  rw [m0]
  by_cases hxy : x < y
  · rw [Nat.max_eq_right (by omega), if_pos hxy]
    by_cases hyz : y < z
    · rw [if_pos hyz, if_neg (by omega), if_neg (by omega), if_pos (by omega)]
    · rw [if_neg hyz, if_neg (show ¬ (y < x ∧ z < x) by omega)]
      by_cases he : z = y
      · rw [if_pos he, if_neg (by omega), if_neg (by omega)]
      · rw [if_neg he, if_pos (by omega)]
  · rw [Nat.max_eq_left (by omega), if_neg hxy]
    by_cases hxz : x < z
    · rw [if_pos hxz, if_neg (by omega), if_neg (by omega), if_pos (by omega)]
    · rw [if_neg hxz]
      by_cases he : z = x
      · rw [if_pos he, if_neg (by omega), if_neg (by omega), if_neg (by omega)]
      · rw [if_neg he]
        by_cases he2 : y = x
        · rw [if_pos he2, if_neg (by omega), if_neg (by omega), if_neg (by omega)]
        · rw [if_neg he2, if_pos (show y < x ∧ z < x by omega), if_pos (by omega)]
section LANDT
variable {X : Cx} {d a : Nat} {L : LandT} {M : Mem} {Q : Option AV → Mem → Prop}
theorem ttL_lt (hO : LdOK L) (s : Nat) : ttL L s < 2 ^ 30 := by
  have v := vtL_le hO.1.2 hO.2.2.2.2.1
  have h0 := v 0 s
  have h1 := v 1 s
  have h2 := v 2 s
  rw [ttL_eq]; omega
theorem kp_votesIn {s k : Nat} (hC : laC M a L) (hO : LdOK L) (hs : s < 2 ^ L.1) (hk : k < 3) (ht : mI M (a + 5) s = nI (ttL L s)) (h : Q (some (vI (nI (vtL L k s)))) M) : Cl X d 0 0 m_X3_votesIn [vR a, vI (nI s), vI (nI k)] M Q := by
  have h512 := p9 hO.1.2
  have v := vtL_le hO.1.2 hO.2.2.2.2.1
  have h0 := v 0 s
  have h1 := v 1 s
  have h2 := v 2 s
  have hlt := ttL_lt hO s
  refine e_X3_votesIn (b_X3_votesIn_0 hC.1 ⟨fun q => absurd q (gd_lo (by omega)), fun _ => ⟨fun q => absurd q (by rw [hC.2.1.1]; exact gd_hi hs (by omega)), fun _ => ⟨by rw [hC.2.1.1]; exact na_in hs (by omega), ?_⟩⟩⟩)
  rw [na_ix (by omega), ht, pk_mul, na_shr (by omega) (by omega), pk_andN (Nat.lt_of_le_of_lt (Nat.shiftRight_le _ _) (by omega)) 10 (by decide)]
  have e : (ttL L s >>> (10 * k)) % 2 ^ 10 = vtL L k s := by
    rw [Nat.shiftRight_eq_div_pow, ttL_eq]
    rcases (show k = 0 ∨ k = 1 ∨ k = 2 by omega) with rfl | rfl | rfl
    · show (_ / 1) % 1024 = _; omega
    · show (_ / 1024) % 1024 = _; omega
    · show (_ / 1048576) % 1024 = _; omega
  rw [e]; exact h
theorem kp_headsIn {s : Nat} (hd : 1 ≤ d) (hC : laC M a L) (hO : LdOK L) (hs : s < 2 ^ L.1) (ht : mI M (a + 5) s = nI (ttL L s)) (h : Q (some (vI (nI (hdL L s)))) M) : Cl X d 0 0 m_X3_headsIn [vR a, vI (nI s)] M Q := by
  refine e_X3_headsIn (b_X3_headsIn_0 hC.1 hd (kp_votesIn hC hO hs (by decide) ht ⟨_, rfl, Ext.refl _, kp_votesIn hC hO hs (by decide) ht ⟨_, rfl, Ext.refl _, kp_votesIn hC hO hs (by decide) ht ⟨_, rfl, Ext.refl _, ?_⟩⟩⟩))
  rw [nI_add, nI_add, ← hdL_eq]; exact h
theorem kp_winnerOf {s : Nat} (hd : 1 ≤ d) (hC : laC M a L) (hO : LdOK L) (hs : s < 2 ^ L.1) (ht : mI M (a + 5) s = nI (ttL L s)) (h : Q (some (vI (nI (wnL L s)))) M) : Cl X d 0 0 m_X3_winnerOf [vR a, vI (nI s)] M Q := by
  have v := vtL_le hO.1.2 hO.2.2.2.2.1
  have h0 := v 0 s
  have h1 := v 1 s
  have h2 := v 2 s
  rw [wnL_eq] at h
  refine e_X3_winnerOf (b_X3_winnerOf_0 hC.1 hd (kp_votesIn hC hO hs (by decide) ht ⟨_, rfl, Ext.refl _, kp_votesIn hC hO hs (by decide) ht ⟨_, rfl, Ext.refl _, kp_votesIn hC hO hs (by decide) ht ⟨_, rfl, Ext.refl _, ?_⟩⟩⟩))
  have w48 : ¬ (vtL L 1 s < vtL L 0 s ∧ vtL L 2 s < vtL L 0 s) → ¬ (vtL L 0 s < vtL L 1 s ∧ vtL L 2 s < vtL L 1 s) → WA X d 0 0 m_X3_winnerOf 48 [some (vR a), none, some (vI (nI (vtL L 0 s))), some (vI (nI (vtL L 1 s))), some (vI (nI (vtL L 2 s)))] [] M Q := fun n1 n2 => by
    rw [if_neg n1, if_neg n2] at h
    refine b_X3_winnerOf_48 hC.1 ?_
    rw [na_le (by omega) (by omega), na_le (by omega) (by omega)]
    refine ⟨fun q => ?_, fun q => ⟨fun q2 => ?_, fun q2 => ?_⟩⟩
    · rw [if_neg (by omega)] at h; exact h
    · rw [if_neg (by omega)] at h; exact h
    · rw [if_pos (by omega)] at h; exact h
  have w35 : ¬ (vtL L 1 s < vtL L 0 s ∧ vtL L 2 s < vtL L 0 s) → WA X d 0 0 m_X3_winnerOf 35 [some (vR a), none, some (vI (nI (vtL L 0 s))), some (vI (nI (vtL L 1 s))), some (vI (nI (vtL L 2 s)))] [] M Q := fun n1 => by
    refine b_X3_winnerOf_35 hC.1 ?_
    rw [na_le (by omega) (by omega), na_le (by omega) (by omega)]
    refine ⟨fun q => w48 n1 (by omega), fun q => ⟨fun q2 => w48 n1 (by omega), fun q2 => ?_⟩⟩
    rw [if_neg n1, if_pos (by omega)] at h; exact h
  rw [na_le (by omega) (by omega), na_le (by omega) (by omega)]
  refine ⟨fun q => w35 (by omega), fun q => ⟨fun q2 => w35 (by omega), fun q2 => ?_⟩⟩
  rw [if_pos (by omega)] at h; exact h
theorem stay_iff (hO : LdOK L) {s : Nat} (hs : s < 2 ^ L.1) : (∀ p, p < L.1 → s.testBit p = true → sub (clo (LdT L) L.1 (2 ^ p)) s) ↔ clo (LdT L) L.1 s = s := by
  have hn := hO.1.2
  have hT : ∀ q, LdT L q < 2 ^ L.1 := fun q => (hO.2.2.2.2.2.2.1 q).2
  constructor
  · intro h
    refine sub_eq (clo_le (fun p hp hb q hq => ?_) sub_rfl) clo_ge
    have hpl : 2 ^ p < 2 ^ L.1 := Nat.pow_lt_pow_right (by decide) hp
    have hc := clo_cl hn hT hpl
    exact h p hp hb q (hc p hp (clo_ge p (by rw [Nat.testBit_two_pow]; exact decide_eq_true rfl)) q hq)
  · intro h p hp hb
    have hc := clo_cl hn hT hs
    rw [h] at hc
    refine clo_le hc (fun q hq => ?_)
    rw [Nat.testBit_two_pow] at hq
    rw [← of_decide_eq_true hq]; exact hb
theorem dif_sub {a b : Nat} : dif a b = 0 ↔ sub a b := by
  constructor
  · intro h q hq
    have : (dif a b).testBit q = false := by rw [h]; exact Nat.zero_testBit q
    rw [tb_dif, hq, Bool.true_and] at this
    simpa using this
  · intro h
    apply Nat.eq_of_testBit_eq
    intro q
    rw [tb_dif, Nat.zero_testBit]
    have := h q
    cases ha : a.testBit q with
    | false => rfl
    | true => rw [this ha]; rfl
theorem flB_lt (L : LandT) (s : Nat) : flB L s ≤ 4 := by
  unfold flB faL
  split
  · omega
  · split
    · omega
    · split
      · omega
      · split <;> omega
theorem flB_eq (L : LandT) (s : Nat) : flB L s = if hgB L s = true then (if ¬ (LdLo L ≤ hdL L s ∧ hdL L s ≤ LdHi L) then 3 else if clo (LdT L) L.1 s ≠ s then 4 else 0) else 2 := by
  unfold flB faL hgB
  by_cases h0 : s = 0
  · rw [if_pos h0]; simp [h0]
  · rw [if_neg h0, decide_eq_true h0, Bool.true_and]
    by_cases h1 : clo (fun p => LdB L p &&& s) L.1 (lwN s) = s
    · rw [if_neg (by simpa using h1), decide_eq_true h1, if_pos rfl]
    · rw [if_pos h1, decide_eq_false h1, if_neg (by decide)]
theorem kp_flawOf {s : Nat} (hd : 2 ≤ d) (hC : laC M a L) (hO : LdOK L) (hs : s < 2 ^ L.1) (ht : mI M (a + 5) s = nI (ttL L s)) (h : Q (some (vI (nI (flB L s)))) M) : Cl X d 0 0 m_X3_flawOf [vR a, vI (nI s)] M Q := by
  have hn := hO.1.2
  have h512 := p9 hn
  obtain ⟨hS, ⟨c1, c2, c3, c4⟩, ⟨k0, k1, k2, k3, k4⟩, g6, g7, g8, g9⟩ := hC
  have hC : laC M a L := ⟨hS, ⟨c1, c2, c3, c4⟩, ⟨k0, k1, k2, k3, k4⟩, g6, g7, g8, g9⟩
  have hH : haF (hgB L) L.1 0 s < 2 ^ 10 := Nat.lt_of_lt_of_le haF_lt (Nat.pow_le_pow_right (by decide) (by omega))
  have hhd := hdL_le hn hO.2.2.2.2.1 s
  have hlo := hO.2.2.1
  have hhi := hO.2.2.2.1
  rw [flB_eq] at h
  refine e_X3_flawOf (b_X3_flawOf_0 hS (by omega) (kp_isHanging hS hn k0 c3 hs (g8 s hs) (by omega) ⟨_, rfl, Ext.refl _, ?_⟩))
  rw [haF_n (Nat.zero_le _) hs]
  refine ⟨fun q => ?_, fun q => ?_⟩
  · rw [bI_n0] at q
    rw [if_pos q] at h
    refine kp_headsIn (by omega) hC hO hs ht ⟨_, rfl, Ext.refl _, ?_⟩
    rw [k2, k3, na_lt (by omega) (by omega), na_le (by omega) (by omega)]
    refine ⟨fun q2 => ?_, fun q2 => ⟨fun q3 => ?_, fun q3 => ?_⟩⟩
    · rw [if_pos (fun z => by have := z.1; unfold LdLo at this; omega)] at h; exact h
    · have hin : LdLo L ≤ hdL L s ∧ hdL L s ≤ LdHi L := by unfold LdLo LdHi; omega
      rw [if_neg (fun z => z hin)] at h
      have hst := stay_iff hO hs
      have key : ∀ r p, p + r = L.1 → (∀ q, q < p → s.testBit q = true → sub (clo (LdT L) L.1 (2 ^ q)) s) → WA X d 0 0 m_X3_flawOf 36 [some (vR a), some (vI (nI s)), none, some (vI (nI p))] [] M Q := by
        intro r
        induction r with
        | zero =>
          intro p hp hall
          obtain rfl : p = L.1 := by omega
          refine b_X3_flawOf_36 hS ⟨fun _ => ?_, fun q => absurd (by rw [k0, na_le (by omega) (by omega)]; exact Nat.le_refl _) q⟩
          rw [if_neg (fun z => z (hst.mp hall))] at h; exact h
        | succ r ih =>
          intro p hp hall
          have hcl := clo_lt (T := LdT L) (n := L.1) (a := 2 ^ p) (fun q => (hO.2.2.2.2.2.2.1 q).2) (Nat.pow_lt_pow_right (by decide) (by omega))
          refine b_X3_flawOf_36 hS ⟨fun q => ?_, fun _ => ?_⟩
          · rw [k0, na_le (by omega) (by omega)] at q; omega
          rw [bit0 (by omega) (by omega)]
          refine ⟨fun q => ?_, fun q => ⟨na_in (by omega) (by omega), ?_⟩⟩
          · rw [nI_add]
            refine ih (p + 1) (by omega) (fun q' h1 h2 => ?_)
            by_cases hq : q' = p
            · subst hq; rw [q] at h2; cases h2
            · exact hall q' (by omega) h2
          · rw [na_ix (by omega), (g7 p (by omega)).2, na_dif, na_eq (by have := dif_lt (b := s) hcl; omega) (by decide), dif_sub]
            refine ⟨fun q2 => ?_, fun q2 => ?_⟩
            · rw [nI_add]
              refine ih (p + 1) (by omega) (fun q' h1 h2 => ?_)
              by_cases hq : q' = p
              · subst hq; exact q2
              · exact hall q' (by omega) h2
            · rw [if_pos (fun z => q2 (hst.mpr z p (by omega) (by simpa using q)))] at h; exact h
      exact key L.1 0 (by omega) (fun q h1 => by omega)
    · rw [if_pos (fun z => by have := z.2; unfold LdHi at this; omega)] at h; exact h
  · rw [bI_0] at q
    rw [if_neg (by rw [q]; decide)] at h; exact h
theorem nar_b {w : Nat} (h : w ≤ 3) : vp_nar .byte ((nI w).toInt8.toInt32) = nI w := by
  rcases (show w = 0 ∨ w = 1 ∨ w = 2 ∨ w = 3 by omega) with rfl | rfl | rfl | rfl <;> decide
theorem kp_refresh (hd : 3 ≤ d) (hC : laC M a L) (hO : LdOK L) (h : ∀ B, Fr (rwS a) M B → laC B a L → laF B a L → mI B (a + 9) 3 = nI 0 → mI B a 14 = nI 0 → Q none B) : Cl X d 0 0 m_X3_refresh [vR a] M Q := by
  have hn := hO.1.2
  have h512 := p9 hn
  have hpos := Nat.two_pow_pos L.1
  -- the rest: winners and lawful ones
  have last : ∀ r s (B : Mem), s + r = 2 ^ L.1 → Fr (rwS a) M B → (∀ x, x < 2 ^ L.1 → mI B (a + 5) x = nI (ttL L x)) → (∀ x, x < s → mI B (a + 6) x = nI (wnL L x) ∧ mI B (a + 8) x = nI (if lwB L x then 2 ^ L.1 else 0)) →
      WA X d 0 0 m_X3_refresh 93 [some (vR a), some (vI (nI s)), none, none, none, none] [] B Q := by
    intro r
    induction r with
    | zero =>
      intro s B hs hF hT hW
      have hCB := hC.rw hF
      have k0 := hCB.2.2.1.1
      have k4 := hCB.2.2.1.2.2.2.2
      have hk8 : isK B (a + 8) 14 (2 ^ L.1) := by
        have := hCB.1.2.2.2.2.2.2.2.1.2
        rw [hCB.2.1.2.2.2] at this; exact this
      refine b_X3_refresh_93 hCB.1 (by omega) ⟨fun _ => ?_, fun q => absurd (by rw [k4, na_lt (by omega) (by omega)]; omega) q⟩
      refine kp_lookAhead (b := lwB L) hCB.1 hn k0 k4 hk8 (by omega) (fun x hx => (hW x (by omega)).2) (fun B2 hF2 hB2 => ⟨rfl, hF2.ext, fun M2 e2 M3 e3 => ?_⟩)
      have hF3 : Fr (rwS a) M M3 := by
        rw [e3, e2]
        exact (hF.trans (hF2.mono (fun b k q => Or.inr (Or.inr (Or.inl q.1))))).trans ((Fr.sI (Or.inr (Or.inr (Or.inr (Or.inl ⟨rfl, rfl⟩))))).trans (Fr.sI (Or.inr (Or.inr (Or.inr (Or.inr ⟨rfl, rfl⟩))))))
      refine h M3 hF3 (hC.rw hF3) (fun x hx => ⟨?_, ?_, ?_⟩) ?_ ?_
      · rw [e3, mI_sI_a (by omega), e2, mI_sI_a (by omega), hF2.at (by omega)]; exact hT x hx
      · rw [e3, mI_sI_a (by omega), e2, mI_sI_a (by omega), hF2.at (by omega)]; exact (hW x (by omega)).1
      · rw [e3, mI_sI_a (by omega), e2, mI_sI_a (by omega)]; exact hB2 x hx
      · rw [e3, mI_sI_a (by omega), e2, mI_sI_eq]
      · rw [e3, mI_sI_eq]
    | succ r ih =>
      intro s B hs hF hT hW
      have hCB := hC.rw hF
      have k0 := hCB.2.2.1.1
      have k4 := hCB.2.2.1.2.2.2.2
      have m6 := hCB.2.1.2.1
      have m8 := hCB.2.1.2.2.2
      have hw3 := wnL_le L s
      refine b_X3_refresh_93 hCB.1 (by omega) ⟨fun q => absurd (by rw [k4, na_lt (by omega) (by omega)] at q; omega) id, fun _ => ?_⟩
      refine kp_winnerOf (by omega) hCB hO (by omega) (hT s (by omega)) ⟨_, rfl, Ext.refl _, by rw [m6]; exact na_in (by omega) (by omega), fun M5 e5 => ?_⟩
      rw [na_ix (by omega), nar_b hw3] at e5
      have hF5 : Fr (rwS a) B M5 := by rw [e5]; exact Fr.sI (Or.inr (Or.inl rfl))
      have hC5 := hCB.rw hF5
      have hT5 : ∀ x, x < 2 ^ L.1 → mI M5 (a + 5) x = nI (ttL L x) := fun x hx => by rw [e5, mI_sI_a (by omega)]; exact hT x hx
      have put : ∀ v, v = (if lwB L s then 2 ^ L.1 else 0) → WA X d 0 0 m_X3_refresh 136 [some (vR a), some (vI (nI s)), none, none, none, none] [vI (nI v), vI (nI s), vR (a + 8)] M5 Q := fun v hv => by
        have hk8 : isK M5 (a + 8) 14 (2 ^ L.1) := by
          have := hC5.1.2.2.2.2.2.2.2.1.2
          rw [hC5.2.1.2.2.2] at this; exact this
        refine b_X3_refresh_136 hC5.1 ⟨2 ^ L.1, hk8, na_in (by omega) (by omega), fun M1 e1 => ?_⟩
        rw [na_ix (by omega)] at e1
        rw [nI_add]
        have hF1 : Fr (rwS a) M5 M1 := by rw [e1]; exact Fr.sI (Or.inr (Or.inr (Or.inl rfl)))
        refine ih (s + 1) M1 (by omega) (hF.trans (hF5.trans hF1)) (fun x hx => by rw [e1, mI_sI_a (by omega)]; exact hT5 x hx) (fun x hx => ⟨?_, ?_⟩)
        · rw [e1, mI_sI_a (by omega), e5, mI_sI]
          by_cases hq : x = s
          · subst hq; rw [if_pos ⟨rfl, rfl⟩]
          · rw [if_neg (fun z => hq z.2)]; exact (hW x (by omega)).1
        · rw [e1, mI_sI]
          by_cases hq : x = s
          · subst hq; rw [if_pos ⟨rfl, rfl⟩, hv]
          · rw [if_neg (fun z => hq z.2), e5, mI_sI_a (by omega)]; exact (hW x (by omega)).2
      have hfl := flB_lt L s
      refine kp_flawOf (by omega) hC5 hO (by omega) (hT5 s (by omega)) ⟨_, rfl, Ext.refl _, ?_⟩
      rw [na_eq (by omega) (by decide)]
      refine ⟨fun q => put 0 ?_, fun q => ?_⟩
      · unfold lwB; rw [decide_eq_false q]; rfl
      · rw [hC5.2.2.1.1, na_1shl (by omega)]
        refine put _ ?_
        unfold lwB; rw [decide_eq_true q]; rfl
  -- the sums
  have sums : ∀ r p (B : Mem), p + r = L.1 → Fr (rwS a) M B → (∀ x, x < 2 ^ p → mI B (a + 5) x = nI (ttL L x)) → WA X d 0 0 m_X3_refresh 2 [some (vR a), some (vI (nI p)), none, none, none, none] [] B Q := by
    intro r
    induction r with
    | zero =>
      intro p B hp hF hT
      obtain rfl : p = L.1 := by omega
      have hCB := hC.rw hF
      have k0 := hCB.2.2.1.1
      exact b_X3_refresh_2 hCB.1 ⟨fun _ => last (2 ^ L.1) 0 B (by omega) hF hT (fun x hx => by omega), fun q => absurd (by rw [k0, na_le (by omega) (by omega)]; exact Nat.le_refl _) q⟩
    | succ r ih =>
      intro p B hp hF hT
      have hCB := hC.rw hF
      have k0 := hCB.2.2.1.1
      have hpp : 2 ^ (p + 1) ≤ 2 ^ L.1 := Nat.pow_le_pow_right (by decide) (by omega)
      have hp2 : 2 ^ (p + 1) = 2 ^ p * 2 := Nat.pow_succ 2 p
      have inner : ∀ r2 s (C : Mem), s + r2 = 2 ^ p → Fr (rwS a) M C → (∀ x, x < 2 ^ p + s → mI C (a + 5) x = nI (ttL L x)) → WA X d 0 0 m_X3_refresh 53 [some (vR a), some (vI (nI p)), none, some (vI (nI (owL L p))), some (vI (nI (2 ^ p))), some (vI (nI s))] [] C Q := by
        intro r2
        induction r2 with
        | zero =>
          intro s C hs hFC hTC
          obtain rfl : s = 2 ^ p := by omega
          refine b_X3_refresh_53 (hC.rw hFC).1 ⟨fun _ => ?_, fun q => absurd (by rw [na_le (by omega) (by omega)]; exact Nat.le_refl _) q⟩
          rw [nI_add]
          exact ih (p + 1) C (by omega) hFC (fun x hx => hTC x (by omega))
        | succ r2 ih2 =>
          intro s C hs hFC hTC
          have hCC := hC.rw hFC
          have hm5 := hCC.2.1.1
          have hor : s ||| 2 ^ p = s + 2 ^ p := by
            rw [Nat.or_comm]
            have := Nat.two_pow_add_eq_or_of_lt (i := p) (b := s) (by omega) 1
            rw [Nat.mul_one] at this
            rw [← this, Nat.add_comm]
          refine b_X3_refresh_53 hCC.1 ⟨fun q => absurd (by rw [na_le (by omega) (by omega)] at q; omega) id, fun _ => ⟨by rw [hm5]; exact na_in (by omega) (by omega), by rw [na_or, hor, hm5]; exact na_in (by omega) (by omega), fun M1 e1 => ?_⟩⟩
          rw [na_or, hor, na_ix (by omega), na_ix (by omega), hTC s (by omega), nI_add, ← ttL_ins (by omega) (by omega), hor] at e1
          rw [nI_add]
          refine ih2 (s + 1) M1 (by omega) (by rw [e1]; exact hFC.trans (Fr.sI (Or.inl ⟨rfl, by have := Nat.two_pow_pos p; omega⟩))) (fun x hx => ?_)
          rw [e1, mI_sI]
          by_cases hq : x = s + 2 ^ p
          · rw [if_pos ⟨rfl, hq⟩, hq]
          · rw [if_neg (fun z => hq z.2)]; exact hTC x (by omega)
      have v0 := hCB.2.2.2.1 p (by omega)
      refine b_X3_refresh_2 hCB.1 ⟨fun q => absurd (by rw [k0, na_le (by omega) (by omega)] at q; omega) id, fun _ x1 ex => ?_⟩
      rw [pk_mul, Nat.mul_comm] at ex
      rw [ex, nI_add, nI_add]
      refine ⟨na_in (by omega) (by omega), na_in (by omega) (by omega), na_in (by omega) (by omega), fun x2 e2 x3 e3 => ?_⟩
      rw [na_ix (by omega), na_ix (by omega), na_ix (by omega)] at e2
      have w0 : mI B (a + 2) (3 * p) = nI (LdV L p 0) := v0 0 (by decide)
      rw [w0, v0 1 (by decide), v0 2 (by decide), own_or (fun k => hO.2.2.2.2.1 p k)] at e2
      rw [na_1shl (by omega)] at e3
      rw [e2, e3]
      exact inner (2 ^ p) 0 B (by omega) hF (fun x hx => hT x (by omega))
  refine e_X3_refresh (b_X3_refresh_0 hC.1 (sums L.1 0 M (by omega) Fr.refl (fun x hx => ?_)))
  obtain rfl : x = 0 := by have : (2 : Nat) ^ 0 = 1 := rfl; omega
  rw [hC.2.2.2.2.2.2, ttL_0]
end LANDT
