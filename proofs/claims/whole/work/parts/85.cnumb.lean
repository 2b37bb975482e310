/-! THE CLASS: the number of parts -/
def numI (f : Nat → Nat) (n s p : Nat) : Nat := smF p (fun q => if (f s).testBit q then s * 2 ^ (2 * (n - 1 - q)) else 0)
/-- the number that the first k parts tell -/
def numO (f : Nat → Nat) (n : Nat) : Nat → Nat
  | 0 => 0
  | s + 1 => numO f n s + numI f n s n
theorem numI_0 (f : Nat → Nat) (n : Nat) : ∀ p, numI f n 0 p = 0
  | 0 => rfl
  | p + 1 => by
    show numI f n 0 p + (if (f 0).testBit p then 0 * 2 ^ (2 * (n - 1 - p)) else 0) = 0
    rw [numI_0 f n p]
    split <;> simp
section NUMB
variable {X : Cx} {d a n : Nat} {M : Mem} {Q : Option AV → Mem → Prop}
theorem kp_numberOf {c k1 m : Nat} {f : Nat → Nat} (hS : LaS M a) (h0 : mI M a 0 = nI n) (hn : n ≤ 9) (hc : isK M c 14 k1) (hm : m ≤ k1 ∧ k1 ≤ 8) (hf : ∀ s, s < m → f s < 2 ^ n ∧ mI M c s = nI (f s)) (h : Q (some (vI (nI (numO f n m)))) M) : Cl X d 0 0 m_X3_numberOf [vR a, vR c, vI (nI m)] M Q := by
  have h512 := p9 hn
  have outer : ∀ r s, s + r = m → WA X d 0 0 m_X3_numberOf 5 [some (vR a), some (vR c), some (vI (nI m)), some (vI (nI (numO f n s))), some (vI (nI s)), none] [] M Q := by
    intro r
    induction r with
    | zero =>
      intro s hs
      obtain rfl : s = m := by omega
      exact b_X3_numberOf_5 hS ⟨fun _ => h, fun q => absurd (by rw [na_le (by omega) (by omega)]; exact Nat.le_refl _) q⟩
    | succ r ih =>
      intro s hs
      obtain ⟨f1, f2⟩ := hf s (by omega)
      have inner : ∀ r2 p, p + r2 = n → WA X d 0 0 m_X3_numberOf 14 [some (vR a), some (vR c), some (vI (nI m)), some (vI (nI (numO f n s + numI f n s p))), some (vI (nI s)), some (vI (nI p))] [] M Q := by
        intro r2
        induction r2 with
        | zero =>
          intro p hp
          obtain rfl : p = n := by omega
          refine b_X3_numberOf_14 hS ⟨fun _ => ?_, fun q => absurd (by rw [h0, na_le (by omega) (by omega)]; exact Nat.le_refl _) q⟩
          rw [nI_add]
          exact ih (s + 1) (by omega)
        | succ r2 ih2 =>
          intro p hp
          have hn2 := ih2 (p + 1) (by omega)
          have e : numI f n s (p + 1) = numI f n s p + (if (f s).testBit p then s * 2 ^ (2 * (n - 1 - p)) else 0) := rfl
          refine b_X3_numberOf_14 hS ⟨fun q => absurd (by rw [h0, na_le (by omega) (by omega)] at q; omega) (id : False → False), fun _ => ⟨k1, hc, na_in (by omega) (by omega), ?_⟩⟩
          rw [na_ix (by omega), f2, bit0 (by omega) (by omega)]
          refine ⟨fun q => ?_, fun q x1 ex => ?_⟩
          · rw [e, if_neg (by rw [q]; decide), Nat.add_zero] at hn2
            rw [nI_add]; exact hn2
          · rw [h0, na_sub (by omega), na_sub (by omega), pk_mul, na_shl _ (by omega), nI_add, Nat.shiftLeft_eq] at ex
            rw [e, if_pos (by simpa using q), ← Nat.add_assoc] at hn2
            rw [ex, nI_add]; exact hn2
      refine b_X3_numberOf_5 hS ⟨fun q => absurd (by rw [na_le (by omega) (by omega)] at q; omega) (id : False → False), fun _ => inner n 0 (by omega)⟩
  have one : WA X d 0 0 m_X3_numberOf 5 [some (vR a), some (vR c), some (vI (nI m)), some (vI (nI 0)), some (vI (nI 1)), none] [] M Q := by
    rcases Nat.eq_zero_or_pos m with hm0 | hm0
    · subst hm0
      exact b_X3_numberOf_5 hS ⟨fun _ => h, fun q => absurd (by decide) q⟩
    · have := outer (m - 1) 1 (by omega)
      have e : numO f n 1 = 0 := by
        show 0 + numI f n 0 n = 0
        rw [numI_0]
      rw [e] at this
      exact this
  exact e_X3_numberOf (b_X3_numberOf_0 hS one)
end NUMB
