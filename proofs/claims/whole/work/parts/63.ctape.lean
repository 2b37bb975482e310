/-! THE CLASS: its tape -/
/-- the tape of the class -/
def kT (M : Mem) (z : Nat) (t : Nat → Nat) : Prop := TaS M 2 ∧ mI M 2 1 = nI z ∧ z ≤ 300 ∧ ∀ i, i < z → mI M 3 i = nI (t i) ∧ 0 < t i ∧ t i < 256
def kst (M : Mem) (w : Option Nat) (i : Nat) : Mem := sI (sI M 2 2 (nI i)) 2 3 (oI w)
def tpS (a k : Nat) : Prop := a = 2 ∧ (k = 2 ∨ k = 3)
theorem kst_2 {M : Mem} {w : Option Nat} {i : Nat} : mI (kst M w i) 2 2 = nI i := by unfold kst; rw [mI_sI_i (by decide), mI_sI_eq]
theorem kst_3 {M : Mem} {w : Option Nat} {i : Nat} : mI (kst M w i) 2 3 = oI w := by unfold kst; rw [mI_sI_eq]
theorem kst_o {M : Mem} {w : Option Nat} {i a k : Nat} (h : ¬ (a = 2 ∧ (k = 2 ∨ k = 3))) : mI (kst M w i) a k = mI M a k := by
  unfold kst
  rw [mI_sI, if_neg (fun q => h ⟨q.1, Or.inr q.2⟩), mI_sI, if_neg (fun q => h ⟨q.1, Or.inl q.2⟩)]
theorem kst_kst {M : Mem} {w w' : Option Nat} {i i' : Nat} : kst (kst M w i) w' i' = kst M w' i' := by
  unfold kst
  rw [sI_comm (M := sI M 2 2 (nI i)) (a := 2) (i := 3) (b := 2) (j := 2) (by decide), sI_sI, sI_sI]
theorem kst_sI2 {M : Mem} {w : Option Nat} {i j : Nat} : sI (kst M w i) 2 2 (nI j) = kst M w j := by
  unfold kst
  rw [sI_comm (M := sI M 2 2 (nI i)) (a := 2) (i := 3) (b := 2) (j := 2) (by decide), sI_sI]
theorem kst_sI3 {M : Mem} {w w' : Option Nat} {i : Nat} : sI (kst M w i) 2 3 (oI w') = kst M w' i := by unfold kst; rw [sI_sI]
theorem kst_sI {M : Mem} {w : Option Nat} {i a k : Nat} {v : Int32} (h : a ≠ 2) : sI (kst M w i) a k v = kst (sI M a k v) w i := by
  unfold kst
  rw [sI_comm (by omega), sI_comm (M := M) (by omega)]
theorem kst_fr {M : Mem} {w : Option Nat} {i : Nat} : Fr tpS M (kst M w i) := by
  unfold kst
  exact (Fr.sI ⟨rfl, Or.inl rfl⟩).trans (Fr.sI ⟨rfl, Or.inr rfl⟩)
theorem ExtK {M : Mem} {w w' : Option Nat} {i i' : Nat} : Ext (kst M w i) (kst M w' i') := ⟨fun _ _ _ h => h, fun _ _ _ _ _ _ => rfl⟩
theorem ExtKK {M B : Mem} {w w' : Option Nat} {i i' : Nat} (h : Ext M B) : Ext (kst M w i) (kst B w' i') := h
theorem kT.k {M : Mem} {z : Nat} {t : Nat → Nat} {w : Option Nat} {i : Nat} (h : kT M z t) : kT (kst M w i) z t :=
  ⟨h.1.ext kst_fr.ext, (kst_o (by decide)).trans h.2.1, h.2.2.1, fun j hj => ⟨(kst_o (by omega)).trans (h.2.2.2 j hj).1, (h.2.2.2 j hj).2⟩⟩
theorem kT.fr {S : Nat → Nat → Prop} {M B : Mem} {z : Nat} {t : Nat → Nat} (h : kT M z t) (hF : Fr S M B) (h1 : ¬ S 2 1) (h2 : ∀ i, ¬ S 3 i) : kT B z t :=
  ⟨h.1.ext hF.ext, (hF.at h1).trans h.2.1, h.2.2.1, fun j hj => ⟨(hF.at (h2 j)).trans (h.2.2.2 j hj).1, (h.2.2.2 j hj).2⟩⟩
theorem nar_ch {n : Nat} (h : n < 65536) : vp_nar .char (nI n) = nI n ∧ narrow .char (.int (nI n)) = .int (nI n) := by
  have e : (nI n).toUInt32.toUInt16.toUInt32.toInt32 = nI n := lg_i2c_small (by rw [nI_toInt (by omega)]; omega) (by rw [nI_toInt (by omega)]; omega)
  constructor
  · show (nI n).toUInt32.toUInt16.toUInt32.toInt32 = nI n; exact e
  · show Value.int ((nI n).toUInt32.toUInt16.toUInt32.toInt32) = _; rw [e]
section TAPE
variable {X : Cx} {d : Nat} {z : Nat} {t : Nat → Nat} {M : Mem} {Q : Option AV → Mem → Prop}
theorem kp_peek {i : Nat} {w : Option Nat} (hT : kT M z t) (hi : i ≤ z) (h : Q (some (vI (nI (chr z t i)))) (kst M w (skp z t i))) : Cl X d 0 0 m_X9_peek [vR 2] (kst M w i) Q := by
  have hz := hT.2.2.1
  have hS : ∀ j, TaS (kst M w j) 2 := fun j => hT.k.1
  have r1 : ∀ j, mI (kst M w j) 2 1 = nI z := fun j => hT.k.2.1
  -- at the end of the blanks
  have fin : ∀ j, j ≤ z → (j = z ∨ t j ≠ 32) → skp z t i = j → WA X d 0 0 m_X9_peek 50 [some (vR 2), none] [] (kst M w j) Q := fun j hj hq hs => by
    have hc : chr z t i = if j < z then t j else 0 := by unfold chr; rw [hs]
    rw [hs, hc] at h
    refine b_X9_peek_50 (hS j) ?_
    rw [r1, kst_2, na_le (by omega) (by omega)]
    refine ⟨fun q => ⟨(nar_ch (n := 0) (by decide)).2, ?_⟩, fun q => ⟨na_in (by omega) (by omega), ?_⟩⟩
    · rw [if_neg (by omega)] at h; exact h
    · obtain ⟨t1, t2, t3⟩ := hT.2.2.2 j (by omega)
      rw [na_ix (by omega), show (2 : Nat) + 1 = 3 from rfl, kst_o (by omega), t1]
      rw [if_pos (by omega)] at h
      exact ⟨(nar_ch (by omega)).2, h⟩
  have key : ∀ r j k, j + r = z → k ≤ j → skp z t i = skp z t j → WA X d 0 0 m_X9_peek 2 [some (vR 2), some (vI (nI k))] [] (kst M w j) Q := by
    intro r
    induction r with
    | zero =>
      intro j k hj hk hs
      obtain rfl : j = z := by omega
      have hs2 : skp j t i = j := by rw [hs, skp_eq, if_neg (by omega)]
      have f := fin j (by omega) (Or.inl rfl) hs2
      refine b_X9_peek_2 (hS j) ⟨fun _ => f, fun _ => ⟨fun _ => f, fun q => absurd ?_ q⟩⟩
      rw [r1, kst_2, na_le (by omega) (by omega)]; exact Nat.le_refl _
    | succ r ih =>
      intro j k hj hk hs
      obtain ⟨t1, t2, t3⟩ := hT.2.2.2 j (by omega)
      refine b_X9_peek_2 (hS j) ⟨fun q => ?_, fun _ => ⟨fun q => ?_, fun _ => ⟨?_, fun q => ?_, fun q M1 e1 => ?_⟩⟩⟩
      · rw [na_le (by omega) (by omega)] at q; omega
      · rw [r1, kst_2, na_le (by omega) (by omega)] at q; omega
      · rw [kst_2]; exact na_in (by omega) (by omega)
      · rw [kst_2, na_ix (by omega), show (2 : Nat) + 1 = 3 from rfl, kst_o (by omega), t1, na_eq (by omega) (by omega)] at q
        exact fin j (by omega) (Or.inr q) (by rw [hs, skp_eq, if_neg (fun z => q z.2)])
      · rw [kst_2, na_ix (by omega), show (2 : Nat) + 1 = 3 from rfl, kst_o (by omega), t1, na_eq (by omega) (by omega)] at q
        rw [kst_2, nI_add, kst_sI2] at e1
        rw [e1, nI_add]
        exact ih (j + 1) (k + 1) (by omega) (by omega) (by rw [hs, skp_eq, if_pos ⟨by omega, q⟩])
  exact e_X9_peek (b_X9_peek_0 (hS i) (key (z - i) i 0 (by omega) (by omega) rfl))
theorem kp_pass {i : Nat} {w : Option Nat} (hS : TaS M 2) (h : Q none (kst M w (i + 1))) : Cl X d 0 0 m_X9_pass [vR 2] (kst M w i) Q := by
  refine e_X9_pass (b_X9_pass_0 (M := kst M w i) hS (fun M1 e1 => ?_))
  rw [kst_2, nI_add, kst_sI2] at e1
  rw [e1]; exact h
theorem kp_refuse {i p : Nat} {w : Option Nat} (hS : TaS M 2) (h : Q (some (vI (nI 0))) (kst M (some p) i)) : Cl X d 0 0 m_X9_refuse [vR 2, vI (nI p)] (kst M w i) Q := by
  refine e_X9_refuse (b_X9_refuse_0 (M := kst M w i) hS (fun M1 e1 => ?_))
  rw [show nI p = oI (some p) from rfl, kst_sI3] at e1
  rw [e1]; exact h
theorem kp_rewind (hS : TaS M 2) (h : Q none (kst M none 0)) : Cl X d 0 0 m_X9_rewind [vR 2] M Q :=
  e_X9_rewind (b_X9_rewind_0 hS (fun M1 e1 M2 e2 => by rw [e2, e1]; exact h))
theorem chr_lt {i : Nat} (hT : kT M z t) : chr z t i < 256 := by
  unfold chr
  split
  · exact (hT.2.2.2 _ (by assumption)).2.2
  · decide
theorem chr_0 {i : Nat} (hT : kT M z t) : chr z t i = 0 ↔ z ≤ skp z t i := by
  unfold chr
  split
  · have := (hT.2.2.2 _ (by assumption)).2.1; omega
  · omega
theorem kp_take {i c : Nat} {w : Option Nat} (hd : 1 ≤ d) (hT : kT M z t) (hi : i ≤ z) (hc : c < 256) (h1 : chr z t i = c → Q (some (vI (nI 1))) (kst M w (skp z t i + 1))) (h2 : chr z t i ≠ c → Q (some (vI (nI 0))) (kst M (some (skp z t i)) (skp z t i))) : Cl X d 0 0 m_X9_take [vR 2, vI (nI c)] (kst M w i) Q := by
  have hb := chr_lt (i := i) hT
  refine e_X9_take (b_X9_take_0 hT.k.1 (by omega) (kp_peek hT hi ⟨_, rfl, ExtK, fun q M2 e2 => ?_, fun q => ?_⟩))
  · rw [na_eq (by omega) (by omega)] at q
    rw [kst_2, nI_add, kst_sI2] at e2
    rw [e2]; exact h1 q
  · rw [na_eq (by omega) (by omega)] at q
    rw [kst_2]
    exact kp_refuse hT.1 ⟨_, rfl, ExtK, bI_B false, h2 q⟩
/-- the value of the first k digits -/
def vV (t : Nat → Nat) (j : Nat) : Nat → Nat
  | 0 => 0
  | k + 1 => 10 * vV t j k + (t (j + k) - 48)
theorem vV_vD (t : Nat → Nat) (j : Nat) {k : Nat} (h : k ≤ 3) : vV t j k = vD t j k := by
  rcases (show k = 0 ∨ k = 1 ∨ k = 2 ∨ k = 3 by omega) with rfl | rfl | rfl | rfl
  · rfl
  · show 10 * 0 + (t (j + 0) - 48) = t j - 48; simp
  · show 10 * (10 * 0 + (t (j + 0) - 48)) + (t (j + 1) - 48) = 10 * (t j - 48) + (t (j + 1) - 48); simp
  · show 10 * (10 * (10 * 0 + (t (j + 0) - 48)) + (t (j + 1) - 48)) + (t (j + 2) - 48) = 10 * (10 * (t j - 48) + (t (j + 1) - 48)) + (t (j + 2) - 48); simp
theorem nD_is {j k : Nat} (h : ∀ k', k' < k → isD z t (j + k') = true) (hk : k ≤ 4) (hq : k = 4 ∨ isD z t (j + k) = false) : nD z t j = k := by
  unfold nD
  have h0 : 0 < k → isD z t j = true := fun q => h 0 q
  rcases (show k = 0 ∨ k = 1 ∨ k = 2 ∨ k = 3 ∨ k = 4 by omega) with rfl | rfl | rfl | rfl | rfl
  · rcases hq with q | q
    · omega
    · rw [if_pos (show isD z t j = false from q)]
  · rcases hq with q | q
    · omega
    · rw [if_neg (by rw [h0 (by decide)]; decide), if_pos q]
  · rcases hq with q | q
    · omega
    · rw [if_neg (by rw [h0 (by decide)]; decide), if_neg (by rw [h 1 (by decide)]; decide), if_pos q]
  · rcases hq with q | q
    · omega
    · rw [if_neg (by rw [h0 (by decide)]; decide), if_neg (by rw [h 1 (by decide)]; decide), if_neg (by rw [h 2 (by decide)]; decide), if_pos q]
  · rw [if_neg (by rw [h0 (by decide)]; decide), if_neg (by rw [h 1 (by decide)]; decide), if_neg (by rw [h 2 (by decide)]; decide), if_neg (by rw [h 3 (by decide)]; decide)]
theorem kp_number {i low high : Nat} {but w : Option Nat} (hd : 2 ≤ d) (hT : kT M z t) (hi : i ≤ z) (hl : low < 1000) (hh : high < 1000) (hbt : ∀ b, but = some b → b < 1000)
    (h1 : ∀ f, num z t low high but i = .inl f → ∀ j, Q (some (vI (-1))) (kst M (some f) j)) (h2 : ∀ v e, num z t low high but i = .inr (v, e) → Q (some (vI (nI v))) (kst M w e)) :
    Cl X d 0 0 m_X9_number [vR 2, vI (nI low), vI (nI high), vI (oI but)] (kst M w i) Q := by
  have hz := hT.2.2.1
  have hS : ∀ j, TaS (kst M w j) 2 := fun j => hT.k.1
  have r1 : ∀ j, mI (kst M w j) 2 1 = nI z := fun j => hT.k.2.1
  have hj := skp_le z t i
  have e : ∀ j, skp z t i = j → j ≤ z → WA X d 0 0 m_X9_number 11 [some (vR 2), some (vI (nI low)), some (vI (nI high)), some (vI (oI but)), some (vI (nI 0)), some (vI (nI 0))] [] (kst M w j) Q := fun j hjs hj => by
    unfold num at h1 h2
    rw [hjs] at h1 h2
    -- a fault at the last digit
    have bad : ∀ k f, 1 ≤ k → k ≤ 4 → j + k ≤ z → f + 1 = j + k → (∀ j', Q (some (vI (-1))) (kst M (some f) j')) → WA X d 0 0 m_X9_number 132 [some (vR 2), none, none, none, none, none] [] (kst M w (j + k)) Q := fun k f a b c g hq => by
      refine b_X9_number_132 (hS _) (by omega) ?_
      rw [kst_2, show j + k = f + 1 by omega, na_sub (by omega), show f + 1 - 1 = f by omega]
      exact kp_refuse hT.1 ⟨_, rfl, ExtK, hq _⟩
    have fin : ∀ k v, nD z t j = k → k ≤ 4 → j + k ≤ z → v < 10000 → (k ≤ 3 → v = vD t j k) → WA X d 0 0 m_X9_number 92 [some (vR 2), some (vI (nI low)), some (vI (nI high)), some (vI (oI but)), some (vI (nI v)), some (vI (nI k))] [] (kst M w (j + k)) Q := fun k v hk hk4 hkz hv hvd => by
      rw [hk] at h1 h2
      refine b_X9_number_92 (hS _) (by omega) ⟨fun q => ⟨fun q4 => ?_, fun q4 => ⟨fun ql => ?_, fun ql => ⟨fun qh => ?_, fun qh => ⟨fun qb => ?_, fun qb => ?_⟩⟩⟩⟩, fun q => ?_⟩
      · rw [na_eq (by omega) (by omega)] at q q4
        rw [if_neg q, if_pos q4] at h1
        exact bad k (j + 3) (by omega) hk4 hkz (by omega) (h1 _ rfl)
      · rw [na_eq (by omega) (by omega)] at q q4
        have := hvd (by omega)
        subst this
        rw [na_lt (by omega) (by omega)] at ql
        rw [if_neg q, if_neg q4, if_pos (Or.inl ql)] at h1
        exact bad k (j + k - 1) (by omega) hk4 hkz (by omega) (h1 _ rfl)
      · rw [na_eq (by omega) (by omega)] at q q4
        have := hvd (by omega)
        subst this
        rw [na_lt (by omega) (by omega)] at qh
        rw [if_neg q, if_neg q4, if_pos (Or.inr (Or.inl qh))] at h1
        exact bad k (j + k - 1) (by omega) hk4 hkz (by omega) (h1 _ rfl)
      · rw [na_eq (by omega) (by omega)] at q q4
        have := hvd (by omega)
        subst this
        rw [na_lt (by omega) (by omega)] at ql qh
        have hnb : ¬ some (vD t j k) = but := fun z2 => by
          rw [← z2] at qb; exact qb rfl
        rw [if_neg q, if_neg q4, if_neg (fun z2 => by rcases z2 with z2 | z2 | z2; exact ql z2; exact qh z2; exact hnb z2)] at h2
        exact h2 _ _ rfl
      · rw [na_eq (by omega) (by omega)] at q q4
        have := hvd (by omega)
        subst this
        have hb : some (vD t j k) = but := by
          cases hbc : but with
          | none => rw [hbc] at qb; exact absurd qb (na_m1 (by omega))
          | some b =>
            have hb3 := hbt b hbc
            rw [hbc, show oI (some b) = nI b from rfl, na_eq (by omega) (by omega)] at qb
            rw [qb]
        rw [if_neg q, if_neg q4, if_pos (Or.inr (Or.inr hb))] at h1
        exact bad k (j + k - 1) (by omega) hk4 hkz (by omega) (h1 _ rfl)
      · rw [na_eq (by omega) (by omega)] at q
        subst q
        rw [if_pos rfl] at h1
        rw [kst_2]
        exact kp_refuse hT.1 ⟨_, rfl, ExtK, h1 _ rfl _⟩
    have key : ∀ r k, k + r = 4 → j + k ≤ z → (∀ k', k' < k → isD z t (j + k') = true) → vV t j k < 10 ^ k → WA X d 0 0 m_X9_number 11 [some (vR 2), some (vI (nI low)), some (vI (nI high)), some (vI (oI but)), some (vI (nI (vV t j k))), some (vI (nI k))] [] (kst M w (j + k)) Q := by
      intro r
      induction r with
      | zero =>
        intro k hk hkz hdg hv
        obtain rfl : k = 4 := by omega
        refine b_X9_number_11 (hS _) ⟨fun _ => fin 4 _ (nD_is hdg (by decide) (Or.inl rfl)) (by decide) hkz (by omega) (fun q => by omega), fun q => absurd (by decide) q⟩
      | succ r ih =>
        intro k hk hkz hdg hv
        have hv4 : vV t j k < 10000 := Nat.lt_of_lt_of_le hv (Nat.le_trans (Nat.pow_le_pow_right (by decide) (show k ≤ 4 by omega)) (by decide))
        have ex : isD z t (j + k) = false → WA X d 0 0 m_X9_number 92 [some (vR 2), some (vI (nI low)), some (vI (nI high)), some (vI (oI but)), some (vI (nI (vV t j k))), some (vI (nI k))] [] (kst M w (j + k)) Q := fun q =>
          fin k _ (nD_is hdg (by omega) (Or.inr q)) (by omega) hkz hv4 (fun q3 => vV_vD t j q3)
        refine b_X9_number_11 (hS _) ⟨fun q => ?_, fun _ => ?_⟩
        · rw [na_le (by omega) (by omega)] at q; omega
        rw [r1, kst_2, na_le (by omega) (by omega)]
        refine ⟨fun q => ex (isD_ge q), fun q => ⟨na_in (by omega) (by omega), ?_⟩⟩
        obtain ⟨t1, t2, t3⟩ := hT.2.2.2 (j + k) (by omega)
        rw [na_ix (by omega), show (2 : Nat) + 1 = 3 from rfl, kst_o (by omega), t1, na_lt (by omega) (by omega), na_lt (by omega) (by omega)]
        refine ⟨fun q1 => ex (by unfold isD; simp; omega), fun q1 => ⟨na_in (by omega) (by omega), fun q2 => ex (by unfold isD; simp; omega), fun q2 => ⟨na_in (by omega) (by omega), fun x1 ex1 M1 e1 => ?_⟩⟩⟩
        rw [nI_add, kst_sI2] at e1
        have ev : x1 = nI (vV t j (k + 1)) := by
          rw [ex1, pk_mul, nI_add, na_sub (by omega)]
          rw [show vV t j (k + 1) = 10 * vV t j k + (t (j + k) - 48) from rfl]
          congr 1
          omega
        rw [e1, ev, nI_add]
        refine ih (k + 1) (by omega) (by omega) (fun k' hk' => ?_) ?_
        · by_cases hkk : k' = k
          · subst hkk; unfold isD; simp; omega
          · exact hdg k' (by omega)
        · rw [show vV t j (k + 1) = 10 * vV t j k + (t (j + k) - 48) from rfl, Nat.pow_succ]; omega
    exact key 4 0 (by omega) (by omega) (fun k' hk' => by omega) (show 0 < 1 by decide)
  refine e_X9_number (b_X9_number_0 (hS i) (by omega) (kp_peek hT hi ⟨_, rfl, ExtK, e _ rfl (by omega)⟩))
end TAPE
