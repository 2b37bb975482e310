/-! THE CLASS: cuts of a land -/
def atS (c : Nat) (b _k : Nat) : Prop := b = c
theorem toI_lt0 {x : Int32} : x < nI 0 ↔ x.toInt < 0 := by
  rw [Int32.lt_iff_toInt_lt, show (nI 0).toInt = 0 by decide]
theorem toI_lt {x : Int32} {n : Nat} (h : n < 2 ^ 31) : x < nI n ↔ x.toInt < n := by
  rw [Int32.lt_iff_toInt_lt, nI_toInt h]
theorem mkS_0 {f : Nat → Bool} : ∀ {n : Nat}, (∀ q, q < n → f q = false) → mkS n f = 0
  | 0, _ => rfl
  | n + 1, h => by
    unfold mkS
    rw [h n (by omega), mkS_0 (fun q hq => h q (by omega))]; rfl
theorem bb1 {b : Nat} (h : 1 ≤ b ∧ b ≤ 3) : (nI (2 ^ b - 1)).toBitVec.toNat = 2 ^ b - 1 := by
  rcases (show b = 1 ∨ b = 2 ∨ b = 3 by omega) with rfl | rfl | rfl <;> decide
theorem sOp (o b n k s p : Nat) : mkS (p + 1) (fun q => o.testBit q && decide (dgB b n k q = s)) = if (o.testBit p && decide (dgB b n k p = s)) = true then mkS p (fun q => o.testBit q && decide (dgB b n k q = s)) ||| 2 ^ p else mkS p (fun q => o.testBit q && decide (dgB b n k q = s)) := rfl
section SPLIT
variable {X : Cx} {d a n : Nat} {M : Mem} {Q : Option AV → Mem → Prop}
theorem kp_split {x : Int32} {b o m c : Nat} (hS : LaS M a) (h0 : mI M a 0 = nI n) (hn : n ≤ 9) (hb : 1 ≤ b ∧ b ≤ 3) (ho : o < 2 ^ 31) (hm : m < 2 ^ 31) (hc : isK M c 14 8) (hca : c ≠ a)
    (h1 : (∀ k, inN x (2 ^ (b * n)) = some k → nuF b n k o n ≠ some m) → ∀ B, Fr (atS c) M B → Q (some (vI (nI 0))) B)
    (h2 : ∀ k, inN x (2 ^ (b * n)) = some k → nuF b n k o n = some m → ∀ B, Fr (atS c) M B → (∀ s, s < m → mI B c s = nI (sOB b n k o s)) → Q (some (vI (nI 1))) B) : Cl X d 0 0 m_X3_split [vR a, vI x, vI (nI b), vI (nI o), vI (nI m), vR c] M Q := by
  have hbn : b * n ≤ 3 * 9 := Nat.mul_le_mul hb.2 hn
  have hp27 : 2 ^ (b * n) ≤ 2 ^ 27 := Nat.pow_le_pow_right (by decide) hbn
  have h27 : (2 : Nat) ^ 27 = 134217728 := rfl
  have hb8 : 2 ^ b ≤ 2 ^ 3 := Nat.pow_le_pow_right (by decide) hb.2
  have h8 : (2 : Nat) ^ 3 = 8 := rfl
  have hb1 := Nat.two_pow_pos b
  refine e_X3_split (b_X3_split_0 hS ?_)
  rw [h0, pk_mul, na_1shl (by omega), toI_lt0, toI_lt (by omega)]
  refine ⟨fun q => h1 (fun k hk => absurd (by unfold inN at hk; rw [if_neg (by omega)] at hk; cases hk) (id : False → False)) M Fr.refl, fun q0 => ⟨fun q => ?_, fun q => h1 (fun k hk => absurd (by unfold inN at hk; rw [if_neg (by omega)] at hk; cases hk) (id : False → False)) M Fr.refl⟩⟩
  -- the number
  obtain ⟨k, hk⟩ : ∃ k, inN x (2 ^ (b * n)) = some k := ⟨x.toInt.toNat, by unfold inN; rw [if_pos ⟨by omega, by omega⟩]⟩
  obtain ⟨ex, hkl⟩ := inN_some (by omega) hk
  have bad : ∀ p (B : Mem), p ≤ n → Fr (atS c) M B → nuF b n k o p = none → Q (some (vI (nI 0))) B := fun p B hp hF hz => h1 (fun k' hk' => by
    rw [hk] at hk'; cases hk'
    rw [nuF_none_le hz hp]; exact fun z => by cases z) B hF
  have key : ∀ r p u (B : Mem), p + r = n → Fr (atS c) M B → nuF b n k o p = some u → (∀ s, s < u → mI B c s = nI (mkS p (fun q => o.testBit q && decide (dgB b n k q = s)))) → WA X d 0 0 m_X3_split 24 [some (vR a), some (vI x), some (vI (nI b)), some (vI (nI o)), some (vI (nI m)), some (vR c), some (vI (nI u)), some (vI (nI p)), none] [] B Q := by
    intro r
    induction r with
    | zero =>
      intro p u B hp hF hu hB
      obtain rfl : p = n := by omega
      have hup := nuF_le hu
      have e0 : mI B a 0 = nI p := (hF.at (fun z => hca z.symm)).trans h0
      refine b_X3_split_24 (hS.ext hF.ext) ⟨fun _ => ⟨fun q2 => ?_, fun q2 => ?_⟩, fun q2 => absurd (by rw [e0, na_le (by omega) (by omega)]; exact Nat.le_refl _) q2⟩
      · rw [na_eq (by omega) hm] at q2
        exact h1 (fun k' hk' => by
          rw [hk] at hk'; cases hk'
          rw [hu]; exact fun z => q2 (by cases z; rfl)) B hF
      · rw [na_eq (by omega) hm] at q2
        subst q2
        exact h2 k hk hu B hF hB
    | succ r ih =>
      intro p u B hp hF hu hB
      have hup := nuF_le hu
      have hSB := hS.ext hF.ext
      have e0 : mI B a 0 = nI n := (hF.at (fun z => hca z.symm)).trans h0
      have hkB := hF.ext.1 _ _ _ hc
      have hdl : dgB b n k p < 2 ^ b := Nat.mod_lt _ hb1
      have hn1 := ih (p + 1)
      refine b_X3_split_24 hSB ⟨fun q2 => absurd (by rw [e0, na_le (by omega) (by omega)] at q2; omega) (id : False → False), fun _ x1 e1 => ?_⟩
      have hbm : b * (n - 1 - p) ≤ 3 * 9 := Nat.mul_le_mul hb.2 (by omega)
      rw [e0, ex, na_sub (by omega), na_sub (by omega), pk_mul, na_shr (by omega) (by omega), na_1shl (by omega), na_sub (by omega), pk_andN (Nat.lt_of_le_of_lt (Nat.shiftRight_le _ _) (by omega)) b (bb1 hb)] at e1
      have e1 : x1 = nI (dgB b n k p) := e1
      rw [e1, bit0 ho (by omega), na_lt (by omega) (by omega), na_eq (by omega) (by omega), na_eq (by omega) (by decide)]
      refine ⟨fun q2 => ⟨fun q3 => ?_, fun q3 => ⟨8, hkB, fun q4 => ⟨fun q5 => ?_, fun q5 => ⟨na_in (by omega) (by omega), fun M1 em => ?_⟩⟩, fun q4 => absurd ((na_lt (by omega) (by omega)).mpr (by omega)) q4⟩⟩, fun q2 => ⟨fun q3 => ?_, fun q3 => ?_⟩⟩
      · have q2 : o.testBit p = true := by simpa using q2
        refine bad (p + 1) B (by omega) hF ?_
        unfold nuF; rw [hu]; dsimp only; rw [if_pos q2, if_pos q3]
      · have q2 : o.testBit p = true := by simpa using q2
        have hu1 : nuF b n k o (p + 1) = some u := by
          unfold nuF; rw [hu]; dsimp only; rw [if_pos q2, if_neg q3, if_neg q5]
        refine b_X3_split_103 hSB ⟨8, hkB, na_in (by omega) (by omega), na_in (by omega) (by omega), fun M1 em => ?_⟩
        rw [na_ix (by omega), hB _ (by omega), na_1shl (by omega), na_or] at em
        rw [nI_add]
        refine hn1 u M1 (by omega) (by rw [em]; exact hF.trans (Fr.sI rfl)) hu1 (fun s hs => ?_)
        rw [em, mI_sI, sOp, q2, Bool.true_and]
        by_cases hq : s = dgB b n k p
        · rw [if_pos ⟨rfl, hq⟩, decide_eq_true hq.symm, if_pos rfl, hq]
        · rw [if_neg (fun z => hq z.2), decide_eq_false (fun z => hq z.symm), if_neg (by decide)]; exact hB s hs
      · have q2 : o.testBit p = true := by simpa using q2
        rw [na_ix (by omega), q5] at em
        have hu1 : nuF b n k o (p + 1) = some (u + 1) := by
          unfold nuF; rw [hu]; dsimp only; rw [if_pos q2, if_neg q3, if_pos q5]
        have hF1 : Fr (atS c) M M1 := by rw [em]; exact hF.trans (Fr.sI rfl)
        rw [nI_add, q5]
        refine b_X3_split_103 (hS.ext hF1.ext) ⟨8, hF1.ext.1 _ _ _ hc, na_in (by omega) (by omega), na_in (by omega) (by omega), fun M2 e2 => ?_⟩
        rw [na_ix (by omega), em, mI_sI_eq, na_1shl (by omega), na_or, Nat.zero_or] at e2
        rw [nI_add]
        refine hn1 (u + 1) M2 (by omega) (by rw [e2]; exact hF.trans ((Fr.sI (S := atS c) rfl).trans (Fr.sI rfl))) hu1 (fun s hs => ?_)
        rw [e2, mI_sI, mI_sI, sOp, q2, Bool.true_and]
        by_cases hq : s = u
        · subst hq
          have hz : mkS p (fun q => o.testBit q && decide (dgB b n k q = s)) = 0 := mkS_0 (fun q hq => by
            cases ho2 : o.testBit q with
            | false => rfl
            | true =>
              have := (nuF_iff.mp hu).1 q hq ho2
              rw [decide_eq_false (by omega)]; rfl)
          rw [if_pos ⟨rfl, rfl⟩, decide_eq_true q5, if_pos rfl, hz, Nat.zero_or]
        · rw [if_neg (fun z => hq z.2), if_neg (fun z => hq z.2), decide_eq_false (fun z => hq (by omega)), if_neg (by decide)]; exact hB s (by omega)
      · have hu1 : nuF b n k o (p + 1) = some u := by
          unfold nuF; rw [hu]; dsimp only; rw [if_neg (by rw [q2]; decide), if_pos q3]
        rw [nI_add]
        refine hn1 u B (by omega) hF hu1 (fun s hs => ?_)
        rw [sOp, q2, Bool.false_and, if_neg (by decide)]; exact hB s hs
      · refine bad (p + 1) B (by omega) hF ?_
        unfold nuF; rw [hu]; dsimp only; rw [if_neg (by rw [q2]; decide), if_neg q3]
  exact key n 0 0 M (by omega) Fr.refl rfl (fun s hs => by omega)
end SPLIT
theorem p4e (n : Nat) : 4 ^ n = 2 ^ (2 * n) := by rw [Nat.pow_mul]
/-- the land with tables that fit -/
def laR (M : Mem) (a : Nat) (L : LandT) : Prop := laC M a L ∧ laF M a L ∧ LdOK L
section CUTS
variable {X : Cx} {d a : Nat} {L : LandT} {M : Mem} {Q : Option AV → Mem → Prop}
theorem laF.fr {S : Nat → Nat → Prop} {B : Mem} (h : laF M a L) (hF : Fr S M B) (hS : ∀ k, ¬ S (a + 5) k ∧ ¬ S (a + 6) k ∧ ¬ S (a + 8) k) : laF B a L := fun s hs => by
  obtain ⟨h1, h2, h3⟩ := h s hs
  exact ⟨(hF.at (hS s).1).trans h1, (hF.at (hS s).2.1).trans h2, (hF.at (hS s).2.2).trans h3⟩
theorem laR.fr {S : Nat → Nat → Prop} {B : Mem} (h : laR M a L) (hF : Fr S M B) (hS : ∀ b k, a ≤ b → b ≤ a + 8 → ¬ S b k) : laR B a L :=
  ⟨h.1.fr hF (fun k _ => hS _ _ (by omega) (by omega)) (fun k => ⟨hS _ _ (by omega) (by omega), hS _ _ (by omega) (by omega), hS _ _ (by omega) (by omega), hS _ _ (by omega) (by omega)⟩) (hS _ _ (by omega) (by omega)), h.2.1.fr hF (fun k => ⟨hS _ _ (by omega) (by omega), hS _ _ (by omega) (by omega), hS _ _ (by omega) (by omega)⟩), h.2.2⟩
theorem kp_lawful {s : Nat} (hR : laR M a L) (hs : s < 2 ^ L.1) (h : Q (some (vI (bI (lwB L s)))) M) : Cl X d 0 0 m_X3_isLawful [vR a, vI (nI s)] M Q := by
  obtain ⟨hC, hF, hO⟩ := hR
  have hn := hO.1.2
  have hH : haF (lwB L) L.1 0 s < 2 ^ 10 := Nat.lt_of_lt_of_le haF_lt (Nat.pow_le_pow_right (by decide) (by omega))
  refine kp_isLawful hC.1 hn hC.2.2.1.1 hC.2.1.2.2.2 hs (hF s hs).2.2 (by omega) ?_
  rw [haF_n (Nat.zero_le _) hs]; exact h
/-- cells c on, of no land -/
def ofa (a c : Nat) : Prop := c < a ∨ a + 8 < c
theorem laR.at {c : Nat} {B : Mem} (h : laR M a L) (hF : Fr (atS c) M B) (hc : ofa a c) : laR B a L := h.fr hF (fun b k h1 h2 q => by unfold atS at q; unfold ofa at hc; omega)
theorem kp_isNumbered {x : Int32} {c : Nat} (hd : 1 ≤ d) (hR : laR M a L) (hc : isK M c 14 8) (hca : ofa a c)
    (h1 : (∀ k, inN x (4 ^ L.1) = some k → nuF 2 L.1 k (whL L) L.1 ≠ some L.2.1) → ∀ B, Fr (atS c) M B → Q (some (vI (nI 0))) B)
    (h2 : ∀ k, inN x (4 ^ L.1) = some k → nuF 2 L.1 k (whL L) L.1 = some L.2.1 → ∀ B, Fr (atS c) M B → (∀ s, s < L.2.1 → mI B c s = nI (sOB 2 L.1 k (whL L) s)) → Q (some (vI (nI 1))) B) : Cl X d 0 0 m_X3_isNumbered [vR a, vI x, vR c] M Q := by
  obtain ⟨hC, hF, hO⟩ := hR
  have h512 := p9 hO.1.2
  have hs4 := hO.2.1.2.1
  rw [p4e] at h1 h2
  refine e_X3_isNumbered (b_X3_isNumbered_0 hC.1 hd ?_)
  rw [hC.2.2.1.2.2.2.2, hC.2.2.1.2.1]
  exact kp_split hC.1 hC.2.2.1.1 hO.1.2 (by decide) (by omega) (by omega) hc (by unfold ofa at hca; omega) (fun hk B hF => ⟨_, rfl, hF.ext, bI_B false, h1 hk B hF⟩) (fun k hk hu B hF hB => ⟨_, rfl, hF.ext, bI_B true, h2 k hk hu B hF hB⟩)
theorem lwB_fa {s : Nat} (h : s ≠ 0) : lwB L s = decide (faL L s = 0) := by unfold lwB flB; rw [if_neg h]
theorem kp_isLawfulCut {x : Int32} {o m c : Nat} (hd : 1 ≤ d) (hR : laR M a L) (ho : o < 2 ^ 31) (hm : m ≤ 8) (hc : isK M c 14 8) (hca : ofa a c)
    (h1 : icB L x o m = false → ∀ B, Fr (atS c) M B → Q (some (vI (nI 0))) B)
    (h2 : ∀ k, inN x (4 ^ L.1) = some k → icN L k o m → ∀ B, Fr (atS c) M B → (∀ s, s < m → mI B c s = nI (sOB 2 L.1 k o s)) → Q (some (vI (nI 1))) B) : Cl X d 0 0 m_X3_isLawfulCut [vR a, vI x, vI (nI o), vI (nI m), vR c] M Q := by
  obtain ⟨hC, hF, hO⟩ := hR
  have hR : laR M a L := ⟨hC, hF, hO⟩
  have h512 := p9 hO.1.2
  unfold icB at h1
  rw [p4e] at h1 h2
  refine e_X3_isLawfulCut (b_X3_isLawfulCut_0 hC.1 hd (kp_split hC.1 hC.2.2.1.1 hO.1.2 (by decide) ho (by omega) hc (by unfold ofa at hca; omega) (fun hk B hF => ⟨_, rfl, hF.ext, fun q => absurd rfl q, fun _ => h1 ?_ B hF⟩) (fun k hk hu B hF hB => ⟨_, rfl, hF.ext, fun _ => ?_, fun q => absurd q (by decide)⟩)))
  · cases hi : inN x (2 ^ (2 * L.1)) with
    | none => rfl
    | some k => exact decide_eq_false (fun z => hk k hi z.1)
  · have hRB := hR.at hF hca
    have key : ∀ r s, s + r = m → (∀ j, j < s → faL L (sOB 2 L.1 k o j) = 0) → WA X d 0 0 m_X3_isLawfulCut 18 [some (vR a), none, none, some (vI (nI m)), some (vR c), some (vI (nI s))] [] B Q := by
      intro r
      induction r with
      | zero =>
        intro s hs hall
        obtain rfl : s = m := by omega
        exact b_X3_isLawfulCut_18 hRB.1.1 hd ⟨fun _ => h2 k hk ⟨hu, hall⟩ B hF hB, fun q => absurd (by rw [na_le (by omega) (by omega)]; exact Nat.le_refl _) q⟩
      | succ r ih =>
        intro s hs hall
        have hpos := nuF_pos hu (show s < m by omega)
        have hlt := sOB_lt 2 L.1 k o s
        refine b_X3_isLawfulCut_18 hRB.1.1 hd ⟨fun q => absurd (by rw [na_le (by omega) (by omega)] at q; omega) (id : False → False), fun _ => ⟨8, hF.ext.1 _ _ _ hc, na_in (by omega) (by omega), ?_⟩⟩
        rw [na_ix (by omega), hB s (by omega)]
        refine kp_lawful hRB hlt ⟨_, rfl, Ext.refl _, ?_⟩
        rw [lwB_fa (by omega)]
        refine ⟨fun q => ?_, fun q => h1 ?_ B hF⟩
        · rw [bI_n0] at q
          have q := of_decide_eq_true q
          rw [nI_add]
          refine ih (s + 1) (by omega) (fun j hj => ?_)
          by_cases hjs : j = s
          · subst hjs; exact q
          · exact hall j (by omega)
        · rw [bI_0] at q
          have q := of_decide_eq_false q
          rw [hk]
          exact decide_eq_false (fun z => q (z.2 s (by omega)))
    exact key m 0 (by omega) (fun j hj => by omega)
theorem kp_judged {x : Int32} {c : Nat} (hd : 3 ≤ d) (hR : laR M a L) (hc : isK M c 14 8) (hca : ofa a c)
    (h1 : inN x (4 ^ L.1) = none → Q (some (vI (-1))) M)
    (h2 : ∀ k, inN x (4 ^ L.1) = some k → ∀ B, Fr (atS c) M B → (jdL L k ≠ 1 → ∀ s, s < L.2.1 → mI B c s = nI (sOB 2 L.1 k (whL L) s)) → Q (some (vI (nI (jdL L k)))) B) : Cl X d 0 0 m_X3_judged [vR a, vI x, vR c] M Q := by
  obtain ⟨hC, hFt, hO⟩ := hR
  have hR : laR M a L := ⟨hC, hFt, hO⟩
  have h512 := p9 hO.1.2
  have hs4 := hO.2.1.2.1
  have h49 : 4 ^ L.1 ≤ 4 ^ 9 := Nat.pow_le_pow_right (by decide) hO.1.2
  have h49e : (4 : Nat) ^ 9 = 262144 := rfl
  refine e_X3_judged (b_X3_judged_0 hC.1 (by omega) ?_)
  rw [hC.2.2.1.1, pk_mul, na_1shl (by have := hO.1.2; omega), ← p4e, toI_lt0, toI_lt (by omega)]
  refine ⟨fun q => h1 (by unfold inN; rw [if_neg (by omega)]), fun q0 => ⟨fun q => ?_, fun q => h1 (by unfold inN; rw [if_neg (by omega)])⟩⟩
  obtain ⟨k, hk⟩ : ∃ k, inN x (4 ^ L.1) = some k := ⟨x.toInt.toNat, by unfold inN; rw [if_pos ⟨by omega, by omega⟩]⟩
  refine kp_isNumbered (by omega) hR hc hca (fun hno B hF => ⟨_, rfl, hF.ext, fun q2 => absurd rfl q2, fun _ => ?_⟩) (fun k' hk' hu B hF hB => ⟨_, rfl, hF.ext, fun _ => ?_, fun q2 => absurd q2 (by decide)⟩)
  · have e : jdL L k = 1 := by unfold jdL; rw [if_neg (hno k hk)]
    have := h2 k hk B hF (fun z => absurd e z)
    rw [e] at this; exact this
  · rw [hk] at hk'; cases hk'
    have hRB := hR.at hF hca
    have hfin := h2 k hk B hF (fun _ => hB)
    unfold jdL at hfin
    rw [if_pos hu] at hfin
    have key : ∀ r s, s + r = L.2.1 → Q (some (vI (nI (jdS L k r s)))) B → WA X d 0 0 m_X3_judged 31 [some (vR a), none, some (vR c), some (vI (nI s)), none] [] B Q := by
      intro r
      induction r with
      | zero =>
        intro s hs hq
        obtain rfl : s = L.2.1 := by omega
        exact b_X3_judged_31 hRB.1.1 (by omega) ⟨fun _ => hq, fun q => absurd (by rw [hRB.1.2.2.1.2.1, na_le (by omega) (by omega)]; exact Nat.le_refl _) q⟩
      | succ r ih =>
        intro s hs hq
        have hpos := nuF_pos hu (show s < L.2.1 by omega)
        have hlt := sOB_lt 2 L.1 k (whL L) s
        have hfl : flB L (sOB 2 L.1 k (whL L) s) = faL L (sOB 2 L.1 k (whL L) s) := by unfold flB; rw [if_neg (by omega)]
        have hfb := flB_lt L (sOB 2 L.1 k (whL L) s)
        unfold jdS at hq
        refine b_X3_judged_31 hRB.1.1 (by omega) ⟨fun q => absurd (by rw [hRB.1.2.2.1.2.1, na_le (by omega) (by omega)] at q; omega) (id : False → False), fun _ => ⟨8, hF.ext.1 _ _ _ hc, na_in (by omega) (by omega), ?_⟩⟩
        rw [na_ix (by omega), hB s (by omega)]
        refine kp_flawOf (by omega) hRB.1 hO hlt (hRB.2.1 _ hlt).1 ⟨_, rfl, Ext.refl _, ?_⟩
        rw [na_eq (by omega) (by decide), hfl]
        refine ⟨fun q => ?_, fun q => ?_⟩
        · rw [if_pos q] at hq
          rw [nI_add]; exact ih (s + 1) (by omega) hq
        · rw [if_neg q] at hq; exact hq
    exact key L.2.1 0 (by omega) hfin
theorem kp_winnerIn {s : Nat} (hR : laR M a L) (hs : s < 2 ^ L.1) (h : Q (some (vI (nI (wnL L s)))) M) : Cl X d 0 0 m_X3_winnerIn [vR a, vI (nI s)] M Q := by
  obtain ⟨hC, hFt, hO⟩ := hR
  have h512 := p9 hO.1.2
  refine e_X3_winnerIn (b_X3_winnerIn_0 hC.1 ⟨fun q => absurd q (gd_lo (by omega)), fun _ => ⟨fun q => absurd q (by rw [hC.2.1.2.1]; exact gd_hi hs (by omega)), fun _ => ⟨by rw [hC.2.1.2.1]; exact na_in hs (by omega), ?_⟩⟩⟩)
  rw [na_ix (by omega), (hFt _ hs).2.1]
  exact h
theorem kp_wins {c k : Nat} {f : Nat → Nat} (hd : 1 ≤ d) (hR : laR M a L) (hc : isK M c 14 8) (hk : k < 4) (hf : ∀ s, s < L.2.1 → f s < 2 ^ L.1 ∧ mI M c s = nI (f s))
    (h : Q (some (vI (nI (smF L.2.1 (fun s => if wnL L (f s) = k then 1 else 0))))) M) : Cl X d 0 0 m_X3_wins [vR a, vR c, vI (nI k)] M Q := by
  obtain ⟨hC, hFt, hO⟩ := id hR
  have h512 := p9 hO.1.2
  have hs4 := hO.2.1.2.1
  have key : ∀ r s, s + r = L.2.1 → WA X d 0 0 m_X3_wins 5 [some (vR a), some (vR c), some (vI (nI k)), some (vI (nI (smF s (fun s => if wnL L (f s) = k then 1 else 0)))), some (vI (nI s))] [] M Q := by
    intro r
    induction r with
    | zero =>
      intro s hs
      obtain rfl : s = L.2.1 := by omega
      exact b_X3_wins_5 hC.1 hd ⟨fun _ => h, fun q => absurd (by rw [hC.2.2.1.2.1, na_le (by omega) (by omega)]; exact Nat.le_refl _) q⟩
    | succ r ih =>
      intro s hs
      obtain ⟨f1, f2⟩ := hf s (by omega)
      have hw := wnL_le L (f s)
      have hn := ih (s + 1) (by omega)
      refine b_X3_wins_5 hC.1 hd ⟨fun q => absurd (by rw [hC.2.2.1.2.1, na_le (by omega) (by omega)] at q; omega) (id : False → False), fun _ => ⟨8, hc, na_in (by omega) (by omega), ?_⟩⟩
      rw [na_ix (by omega), f2]
      refine kp_winnerIn hR f1 ⟨_, rfl, Ext.refl _, ?_⟩
      rw [na_eq (by omega) (by omega)]
      refine ⟨fun q => ?_, fun q => ?_⟩
      · rw [nI_add]
        simp only [smF, if_neg q, Nat.add_zero] at hn
        exact hn
      · rw [nI_add, nI_add]
        simp only [smF, if_pos q] at hn
        exact hn
  exact e_X3_wins (b_X3_wins_0 hC.1 (key L.2.1 0 (by omega)))
theorem kp_votesInAll {k : Nat} (hC : laC M a L) (hO : LdOK L) (hk : k < 3) (h : Q (some (vI (nI (smF L.1 (fun p => LdV L p k))))) M) : Cl X d 0 0 m_X3_votesInAll [vR a, vI (nI k)] M Q := by
  have hn := hO.1.2
  have key : ∀ r p, p + r = L.1 → WA X d 0 0 m_X3_votesInAll 4 [some (vR a), some (vI (nI k)), some (vI (nI (smF p (fun p => LdV L p k)))), some (vI (nI p))] [] M Q := by
    intro r
    induction r with
    | zero =>
      intro p hp
      obtain rfl : p = L.1 := by omega
      exact b_X3_votesInAll_4 hC.1 ⟨fun _ => h, fun q => absurd (by rw [hC.2.2.1.1, na_le (by omega) (by omega)]; exact Nat.le_refl _) q⟩
    | succ r ih =>
      intro p hp
      refine b_X3_votesInAll_4 hC.1 ⟨fun q => absurd (by rw [hC.2.2.1.1, na_le (by omega) (by omega)] at q; omega) (id : False → False), fun _ => ⟨?_, fun x1 ex => ?_⟩⟩
      · rw [pk_mul, nI_add]; exact na_in (by omega) (by omega)
      · rw [pk_mul, nI_add, na_ix (by omega), Nat.mul_comm, hC.2.2.2.1 p (by omega) k hk, nI_add] at ex
        rw [ex, nI_add]
        exact ih (p + 1) (by omega)
  exact e_X3_votesInAll (b_X3_votesInAll_0 hC.1 (key L.1 0 (by omega)))
end CUTS
