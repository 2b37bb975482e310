/-! THE NUMBER OF PARTS is the number of their digits -/
theorem smF_zero : ∀ n, smF n (fun _ => 0) = 0
  | 0 => rfl
  | n + 1 => by show smF n (fun _ => 0) + 0 = 0; rw [smF_zero n]
theorem smF_swap (g : Nat → Nat → Nat) (n : Nat) : ∀ m, smF m (fun s => smF n (fun q => g s q)) = smF n (fun q => smF m (fun s => g s q))
  | 0 => (smF_zero n).symm
  | m + 1 => by
    show smF m (fun s => smF n (fun q => g s q)) + smF n (fun q => g m q) = smF n (fun q => smF m (fun s => g s q) + g m q)
    rw [smF_swap g n m, smF_add]
theorem smF_lt {f g : Nat → Nat} : ∀ {n : Nat}, (∀ p, p < n → f p = g p) → smF n f = smF n g
  | 0, _ => rfl
  | n + 1, h => by
    show smF n f + f n = smF n g + g n
    rw [smF_lt (fun p hp => h p (by omega)), h n (by omega)]
theorem numO_sm (f : Nat → Nat) (n : Nat) : ∀ m, numO f n m = smF m (fun s => numI f n s n)
  | 0 => rfl
  | m + 1 => by
    show numO f n m + numI f n m n = _
    rw [numO_sm f n m]; rfl
theorem smF_one {x w : Nat} : ∀ m, smF m (fun s => if x = s then s * w else 0) = if x < m then x * w else 0
  | 0 => rfl
  | m + 1 => by
    show smF m (fun s => if x = s then s * w else 0) + (if x = m then m * w else 0) = _
    rw [smF_one m]
    by_cases h : x = m
    · subst h; rw [if_neg (Nat.lt_irrefl _), if_pos rfl, if_pos (Nat.lt_succ_self _), Nat.zero_add]
    · rw [if_neg h, Nat.add_zero]
      by_cases h2 : x < m
      · rw [if_pos h2, if_pos (by omega)]
      · rw [if_neg h2, if_neg (by omega)]
theorem ofD_sm (D : Nat → Nat) : ∀ n, ofD 2 D n = smF n (fun q => D q * 2 ^ (2 * (n - 1 - q)))
  | 0 => rfl
  | n + 1 => by
    show 2 ^ 2 * ofD 2 D n + D n = smF n (fun q => D q * 2 ^ (2 * (n + 1 - 1 - q))) + D n * 2 ^ (2 * (n + 1 - 1 - n))
    rw [ofD_sm D n, ← smF_mul, show n + 1 - 1 - n = 0 by omega, Nat.mul_zero, Nat.pow_zero, Nat.mul_one]
    congr 1
    refine smF_lt (fun q hq => ?_)
    rw [show 2 * (n + 1 - 1 - q) = 2 * (n - 1 - q) + 2 by omega, Nat.pow_add, Nat.mul_comm (2 ^ 2), Nat.mul_assoc]
/-- parts that have nothing in common: D tells in which one a parish is -/
theorem numO_of {f D : Nat → Nat} {I : Nat → Bool} {n m : Nat} (hf : ∀ s, s < m → ∀ p, p < n → (f s).testBit p = (I p && decide (D p = s))) (h0 : ∀ p, I p = false → D p = 0) (hD : ∀ p, I p = true → D p < m) : numO f n m = ofD 2 D n := by
  rw [numO_sm, ofD_sm]
  have e : smF m (fun s => numI f n s n) = smF m (fun s => smF n (fun q => if (I q && decide (D q = s)) = true then s * 2 ^ (2 * (n - 1 - q)) else 0)) := smF_lt (fun s hs => by
    unfold numI
    exact smF_lt (fun q hq => by rw [hf s hs q hq]))
  rw [e, smF_swap]
  refine smF_lt (fun q hq => ?_)
  cases hi : I q with
  | false =>
    rw [h0 q hi, Nat.zero_mul]
    simp only [Bool.false_and, Bool.false_eq_true, if_false]
    exact smF_zero m
  | true =>
    have := smF_one (x := D q) (w := 2 ^ (2 * (n - 1 - q))) m
    rw [if_pos (hD q hi)] at this
    simp only [Bool.true_and, decide_eq_true_eq]
    exact this
/-- so a cut's own seats tell its number -/
theorem numO_cut {L : LandT} {x o m : Nat} (hx : x < 4 ^ L.1) (h : nuF 2 L.1 x o L.1 = some m) : numO (fun s => sOB 2 L.1 x o s) L.1 m = x := by
  have hcl : ∀ p, p < L.1 → o.testBit p = false → dgB 2 L.1 x p = 0 := fun p hp ho => by
    have hne : nuF 2 L.1 x o (p + 1) ≠ none := fun z => by
      have := nuF_none_le z (show p + 1 ≤ L.1 by omega)
      rw [h] at this; cases this
    unfold nuF at hne
    cases hq : nuF 2 L.1 x o p with
    | none => rw [hq] at hne; exact absurd rfl hne
    | some u =>
      rw [hq] at hne
      dsimp only at hne
      rw [if_neg (by rw [ho]; decide)] at hne
      by_cases hz : dgB 2 L.1 x p = 0
      · exact hz
      · rw [if_neg hz] at hne; exact absurd rfl hne
  have e := numO_of (f := fun s => sOB 2 L.1 x o s) (D := fun p => if (decide (p < L.1) && o.testBit p) = true then dgB 2 L.1 x p else 0) (I := fun p => decide (p < L.1) && o.testBit p) (n := L.1) (m := m) (fun s hs p hp => by
    show (sOB 2 L.1 x o s).testBit p = _
    rw [tb_sOB, decide_eq_true hp, Bool.true_and]
    cases ho : o.testBit p with
    | false => simp
    | true => simp) (fun p hp => by
    show (if (decide (p < L.1) && o.testBit p) = true then _ else 0) = 0
    rw [if_neg (by rw [hp]; decide)]) (fun p hp => by
    show (if (decide (p < L.1) && o.testBit p) = true then dgB 2 L.1 x p else 0) < m
    rw [if_pos hp]
    have hp1 : p < L.1 := by cases hq : decide (p < L.1) <;> simp_all
    have hp2 : o.testBit p = true := by cases hq : o.testBit p <;> simp_all
    exact nuF_lt h hp1 hp2)
  rw [e]
  have hD : ∀ p, (fun p => if (decide (p < L.1) && o.testBit p) = true then dgB 2 L.1 x p else 0) p < 2 ^ 2 := fun p => by
    show (if _ then _ else 0) < _
    split
    · exact Nat.mod_lt _ (by decide)
    · decide
  refine dg_ext (b := 2) (n := L.1) (ofD_lt hD L.1) hx (fun q hq => ?_)
  rw [dg_ofD hD L.1 q hq]
  show (if (decide (q < L.1) && o.testBit q) = true then dgB 2 L.1 x q else 0) = _
  cases ho : o.testBit q with
  | true => rw [decide_eq_true hq]; rfl
  | false => rw [hcl q hq ho]; simp
