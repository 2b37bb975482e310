/-! THE CLASS: what hangs together is found -/
/-- hangs together, and is not empty -/
def hgB (L : LandT) (s : Nat) : Bool := decide (s ≠ 0) && decide (clo (fun p => LdB L p &&& s) L.1 (lwN s) = s)
theorem hgB_iff {L : LandT} (hO : LdOK L) {s : Nat} (hs : s < 2 ^ L.1) : hgB L s = true ↔ s ≠ 0 ∧ Conn (LdB L) s := by
  have hsy : ∀ p q, (LdB L p).testBit q = (LdB L q).testBit p := fun p q => (hO.2.2.2.2.2.2.2.2.1 p q).1
  unfold hgB
  by_cases h0 : s = 0
  · simp [h0]
  · rw [decide_eq_true h0, Bool.true_and, decide_eq_true_iff, Conn_iff hO.1.2 (fun q => (hO.2.2.2.2.2.2.1 q).1) hsy h0 hs]
    exact ⟨fun h => ⟨h0, h⟩, fun h => h.2⟩
theorem one_iff {s : Nat} (h0 : s ≠ 0) : s &&& (s - 1) = 0 ↔ ∃ p, s = 2 ^ p := by
  constructor
  · intro h
    obtain ⟨k, m, e⟩ := odd_of s h0
    refine ⟨k, ?_⟩
    by_cases hm : m = 0
    · subst hm; rw [e]; simp
    · exfalso
      obtain ⟨i, hi⟩ := ne0_ex hm
      have hp := Nat.two_pow_pos k
      have e1 : s - 1 = 2 ^ k * (2 * m) + (2 ^ k - 1) := by rw [e, Nat.mul_add]; omega
      have b1 : s.testBit (k + (i + 1)) = true := by
        rw [e, Nat.testBit_two_pow_mul, decide_eq_true (by omega), show k + (i + 1) - k = i + 1 by omega, Nat.testBit_succ, show (2 * m + 1) / 2 = m by omega, hi]; rfl
      have b2 : (s - 1).testBit (k + (i + 1)) = true := by
        rw [Nat.add_comm k (i + 1), Nat.testBit_add, e1, Nat.mul_add_div hp, Nat.div_eq_of_lt (by omega), Nat.add_zero, Nat.testBit_succ, show (2 * m) / 2 = m by omega, hi]
      have : (s &&& (s - 1)).testBit (k + (i + 1)) = true := by rw [Nat.testBit_and, b1, b2]; rfl
      rw [h, Nat.zero_testBit] at this; cases this
  · rintro ⟨p, rfl⟩
    apply Nat.eq_of_testBit_eq
    intro q
    rw [Nat.zero_testBit, Nat.testBit_and, Nat.testBit_two_pow, Nat.testBit_two_pow_sub_one]
    by_cases hq : p = q
    · subst hq; simp
    · rw [decide_eq_false hq]; rfl
section HANG
variable {X : Cx} {d a n : Nat} {M : Mem} {Q : Option AV → Mem → Prop}
theorem gd_lo {k : Nat} (h : k < 2 ^ 31) : ¬ nI k < nI 0 := by
  rw [na_lt h (by decide)]
  omega
theorem gd_hi {k m : Nat} (hk : k < m) (hm : m < 2 ^ 31) : ¬ nI m ≤ nI k := by
  rw [na_le hm (by omega)]
  omega
theorem kp_isHanging {s v : Nat} (hS : LaS M a) (hn : n ≤ 9) (h0 : mI M a 0 = nI n) (hm : mN M (a + 7) = 2 ^ n) (hs : s < 2 ^ n) (hv : mI M (a + 7) s = nI v) (hv2 : v < 2 ^ 31) (h : Q (some (vI (bI (v.testBit n)))) M) : Cl X d 0 0 m_X3_isHanging [vR a, vI (nI s)] M Q := by
  have h512 := p9 hn
  refine e_X3_isHanging (b_X3_isHanging_0 hS ⟨fun q => absurd q (gd_lo (by omega)), fun _ => ⟨fun q => absurd q (by rw [hm]; exact gd_hi hs (by omega)), fun _ => ?_⟩⟩)
  rw [hm, na_ix (by omega), hv, h0, bit0 hv2 (by omega)]
  refine ⟨na_in hs (by omega), fun q => ?_, fun q => ?_⟩
  · rw [q] at h; exact h
  · rw [Bool.not_eq_false] at q; rw [q] at h; exact h
theorem kp_isLawful {s v : Nat} (hS : LaS M a) (hn : n ≤ 9) (h0 : mI M a 0 = nI n) (hm : mN M (a + 8) = 2 ^ n) (hs : s < 2 ^ n) (hv : mI M (a + 8) s = nI v) (hv2 : v < 2 ^ 31) (h : Q (some (vI (bI (v.testBit n)))) M) : Cl X d 0 0 m_X3_isLawful [vR a, vI (nI s)] M Q := by
  have h512 := p9 hn
  refine e_X3_isLawful (b_X3_isLawful_0 hS ⟨fun q => absurd q (gd_lo (by omega)), fun _ => ⟨fun q => absurd q (by rw [hm]; exact gd_hi hs (by omega)), fun _ => ?_⟩⟩)
  rw [hm, na_ix (by omega), hv, h0, bit0 hv2 (by omega)]
  refine ⟨na_in hs (by omega), fun q => ?_, fun q => ?_⟩
  · rw [q] at h; exact h
  · rw [Bool.not_eq_false] at q; rw [q] at h; exact h
theorem ifT (b : Bool) (n : Nat) : (if b then 2 ^ n else 0 : Nat).testBit n = b := by
  cases b with
  | true => rw [if_pos rfl, Nat.testBit_two_pow]; exact decide_eq_true rfl
  | false => rw [if_neg (by decide), Nat.zero_testBit]
theorem ifT_le (b : Bool) (n : Nat) : (if b then 2 ^ n else 0 : Nat) ≤ 2 ^ n := by
  split
  · exact Nat.le_refl _
  · exact Nat.zero_le _
theorem kp_findHanging {L : LandT} (hd : 2 ≤ d) (hS : LaS M a) (hO : LdOK L) (h0 : mI M a 0 = nI L.1) (h4 : mI M a 4 = nI (2 ^ L.1 - 1)) (hm : mN M (a + 7) = 2 ^ L.1) (hB : ∀ p, p < L.1 → mI M (a + 3) p = nI (LdB L p)) (hz : mI M (a + 7) 0 = nI 0)
    (h : ∀ B, Fr (fun b k => b = a + 7 ∧ k < 2 ^ L.1) M B → (∀ s, s < 2 ^ L.1 → mI B (a + 7) s = nI (haF (hgB L) L.1 0 s)) → Q none B) : Cl X d 0 0 m_X3_findHanging [vR a] M Q := by
  have hn := hO.1.2
  have h512 := p9 hn
  have hpos := Nat.two_pow_pos L.1
  have hsy : ∀ p q, (LdB L p).testBit q = (LdB L q).testBit p := fun p q => (hO.2.2.2.2.2.2.2.2.1 p q).1
  have hk7 : isK M (a + 7) 14 (2 ^ L.1) := by
    have := hS.2.2.2.2.2.2.1.2
    rw [hm] at this; exact this
  have outer : ∀ r u (B : Mem), u + r = 2 ^ L.1 → 1 ≤ u → Fr (fun b k => b = a + 7 ∧ k < 2 ^ L.1) M B → (∀ s, s < u → mI B (a + 7) s = nI (if hgB L s then 2 ^ L.1 else 0)) → WA X d 0 0 m_X3_findHanging 2 [some (vR a), some (vI (nI u)), none, none, none] [] B Q := by
    intro r
    induction r with
    | zero =>
      intro u B hu hu1 hF hC
      have hSB := hS.ext hF.ext
      have e4 : mI B a 4 = nI (2 ^ L.1 - 1) := (hF.at (by omega)).trans h4
      refine b_X3_findHanging_2 hSB (by omega) ⟨fun _ => ?_, fun q => absurd ?_ q⟩
      · exact kp_lookAhead (b := hgB L) hSB hn ((hF.at (by omega)).trans h0) e4 (hF.ext.1 _ _ _ hk7) (by omega) (fun s hs => hC s (by omega)) (fun B2 hF2 hB2 => ⟨rfl, hF2.ext, h B2 (hF.trans hF2) hB2⟩)
      · rw [e4, na_lt (by omega) (by omega)]; omega
    | succ r ih =>
      intro u B hu hu1 hF hC
      have hSB := hS.ext hF.ext
      have e0 : mI B a 0 = nI L.1 := (hF.at (by omega)).trans h0
      have e4 : mI B a 4 = nI (2 ^ L.1 - 1) := (hF.at (by omega)).trans h4
      have hmB : mN B (a + 7) = 2 ^ L.1 := isK_mN (hF.ext.1 _ _ _ hk7)
      -- at the end of the search
      have fin : ∀ b : Bool, hgB L u = b → WA X d 0 0 m_X3_findHanging 86 [some (vR a), some (vI (nI u)), some (vI (bI b)), none, none] [] B Q := fun b hb => by
        have put : ∀ v, v = (if hgB L u then 2 ^ L.1 else 0) → WA X d 0 0 m_X3_findHanging 105 [some (vR a), some (vI (nI u)), none, none, none] [vI (nI v), vI (nI u), vR (a + 7)] B Q := fun v hv => by
          refine b_X3_findHanging_105 hSB ⟨2 ^ L.1, hF.ext.1 _ _ _ hk7, na_in (by omega) (by omega), fun M1 e1 => ?_⟩
          rw [na_ix (by omega)] at e1
          rw [nI_add]
          refine ih (u + 1) M1 (by omega) (by omega) (by rw [e1]; exact hF.trans (Fr.sI ⟨rfl, by omega⟩)) (fun s hs => ?_)
          rw [e1, mI_sI]
          by_cases hq : s = u
          · subst hq; rw [if_pos ⟨rfl, rfl⟩, hv]
          · rw [if_neg (fun z => hq z.2)]; exact hC s (by omega)
        refine b_X3_findHanging_86 hSB ⟨fun q => ?_, fun q => ?_⟩
        · rw [bI_0] at q; rw [q] at hb
          exact put 0 (by rw [hb]; rfl)
        · rw [bI_n0] at q; rw [q] at hb
          rw [e0, na_1shl (by omega)]
          exact put _ (by rw [hb]; rfl)
      have hst := Conn_step (B := LdB L) (n := L.1) (set := u) hsy (by omega) (by omega)
      have hgu := hgB_iff hO (s := u) (by omega)
      -- the search
      have go : ∀ r2 p, p + r2 = L.1 → (¬ ∃ q, u = 2 ^ q) → (∀ q, q < p → ¬ (u.testBit q = true ∧ (LdB L q &&& dif u (2 ^ q)) ≠ 0 ∧ Conn (LdB L) (dif u (2 ^ q)))) → WA X d 0 0 m_X3_findHanging 26 [some (vR a), some (vI (nI u)), some (vI (nI 0)), some (vI (nI p)), none] [] B Q := by
        intro r2
        induction r2 with
        | zero =>
          intro p hp hno hq
          obtain rfl : p = L.1 := by omega
          refine b_X3_findHanging_26 hSB (by omega) ⟨fun _ => fin false ?_, fun q => absurd (by rw [e0, na_le (by omega) (by omega)]; exact Nat.le_refl _) q⟩
          rw [← Bool.not_eq_true, hgu]
          rintro ⟨-, hc⟩
          rcases hst.mp hc with z | ⟨q, z1, z2⟩
          · exact hno z
          · exact hq q z1 z2
        | succ r2 ih2 =>
          intro p hp hno hq
          have next : ¬ (u.testBit p = true ∧ (LdB L p &&& dif u (2 ^ p)) ≠ 0 ∧ Conn (LdB L) (dif u (2 ^ p))) → WA X d 0 0 m_X3_findHanging 26 [some (vR a), some (vI (nI u)), some (vI (nI 0)), some (vI (nI p + nI 1)), none] [] B Q := fun hnp => by
            rw [nI_add]
            refine ih2 (p + 1) (by omega) hno (fun q hqp => ?_)
            by_cases hqe : q = p
            · subst hqe; exact hnp
            · exact hq q (by omega)
          refine b_X3_findHanging_26 hSB (by omega) ⟨fun q => ?_, fun _ => ⟨fun q => absurd rfl q, fun _ x1 ex => ?_⟩⟩
          · rw [e0, na_le (by omega) (by omega)] at q; omega
          rw [na_1shl (by omega), na_dif] at ex
          have hdl : dif u (2 ^ p) < 2 ^ 31 := by
            by_cases hb : u.testBit p = true
            · have := dif_sm hb; omega
            · rw [dif_no (by simpa using hb)]; omega
          rw [ex, na_eq hdl (by omega)]
          refine ⟨fun q => next (fun z => by have := dif_sm z.1; omega), fun q => ⟨na_in (by omega) (by omega), ?_⟩⟩
          have hb : u.testBit p = true := by
            cases hb : u.testBit p with
            | true => rfl
            | false => exact absurd (dif_no hb) q
          have hsm := dif_sm hb
          have hBp : mI B (a + 3) p = nI (LdB L p) := (hF.at (by omega)).trans (hB p (by omega))
          rw [na_ix (by omega), hBp, na_and, na_eq (Nat.lt_of_le_of_lt Nat.and_le_right hdl) (by decide)]
          refine ⟨fun q2 => next (fun z => z.2.1 q2), fun q2 => ?_⟩
          have hne : dif u (2 ^ p) ≠ 0 := fun z => q2 (by rw [z, Nat.and_zero])
          have hlev := ifT_le (hgB L (dif u (2 ^ p))) L.1
          refine kp_isHanging hSB hn e0 hmB (by omega) (hC _ hsm) (by omega) ⟨_, rfl, Ext.refl _, ?_⟩
          rw [ifT]
          have hgd := hgB_iff hO (s := dif u (2 ^ p)) (by omega)
          refine ⟨fun q3 => next (fun z => ?_), fun q3 => ?_⟩
          · rw [bI_0] at q3
            have := hgd.mpr ⟨hne, z.2.2⟩
            rw [q3] at this; cases this
          · rw [bI_n0] at q3
            have hcu : hgB L u = true := hgu.mpr ⟨by omega, hst.mpr (Or.inr ⟨p, by omega, hb, q2, (hgd.mp q3).2⟩)⟩
            have f := fin true hcu
            refine b_X3_findHanging_26 hSB (by omega) ⟨fun _ => f, fun _ => ⟨fun _ => f, fun z => absurd z (by decide)⟩⟩
      refine b_X3_findHanging_2 hSB (by omega) ⟨fun q => ?_, fun _ => ?_⟩
      · rw [e4, na_lt (by omega) (by omega)] at q; omega
      rw [na_sub (by omega), na_and, na_eq (Nat.lt_of_le_of_lt Nat.and_le_left (by omega)) (by decide), one_iff (by omega)]
      refine ⟨fun q => go L.1 0 (by omega) q (fun q2 h2 => by omega), fun q => ?_⟩
      have hcu : hgB L u = true := hgu.mpr ⟨by omega, hst.mpr (Or.inl q)⟩
      have f := fin true hcu
      refine b_X3_findHanging_26 hSB (by omega) ⟨fun _ => f, fun _ => ⟨fun _ => f, fun z => absurd z (by decide)⟩⟩
  refine e_X3_findHanging (b_X3_findHanging_0 hS (outer (2 ^ L.1 - 1) 1 M (by omega) (Nat.le_refl _) Fr.refl (fun s hs => ?_)))
  obtain rfl : s = 0 := by omega
  rw [hz]
  have : hgB L 0 = false := by unfold hgB; simp
  rw [this]; rfl
end HANG
