/-! HOW THE CLASS FINDS CUTS: its turns -/
/-- what a cutter was begun with: the hope h, n parishes, o open, m parts, N places -/
def cuB (M : Mem) (a h : Nat) (base : Nat → Bool) (n o m N : Nat) : Prop := CuS M a ∧ (mR M a 4 = h ∧ isK M h 14 (2 ^ n) ∧ ∀ s, s < 2 ^ n → mI M h s = nI (haF base n 0 s)) ∧ (mI M a 5 = nI n ∧ mI M a 6 = nI N ∧ mI M a 7 = nI m) ∧ (∀ j, j ≤ N → mI M (a + 2) j = nI (plF n o j)) ∧ mI M (a + 4) 0 = nI 0
/-- the bounds of these -/
def cuK (a h n o m N : Nat) : Prop := n ≤ 9 ∧ (1 ≤ m ∧ m ≤ 8) ∧ N ≤ 9 ∧ plN n o N ∧ o < 2 ^ n ∧ (h < a ∨ a + 4 < h)
/-- it stands at place i, next digit e -/
def cuT (M : Mem) (a n o i e : Nat) (dp : Nat → Nat) : Prop := mI M a 8 = nI i ∧ (∀ j, j < i → mI M (a + 3) j = nI (dp (plF n o j))) ∧ mI M (a + 3) i = oD e ∧ (∀ j, j ≤ i → mI M (a + 4) j = nI (uP o dp (plF n o j))) ∧ ∀ s, s < 8 → mI M (a + 1) s = nI (if e = 0 then pts o dp (plF n o i) s else pts o (dpU dp (plF n o i) (e - 1)) (plF n o i + 1) s)
def cuS (a b k : Nat) : Prop := (b = a ∧ k = 8) ∨ b = a + 1 ∨ b = a + 3 ∨ (b = a + 4 ∧ k ≠ 0)
theorem cuB.fr {M B : Mem} {a h : Nat} {base : Nat → Bool} {n o m N : Nat} (hB : cuB M a h base n o m N) (hh : h < a ∨ a + 4 < h) (hF : Fr (cuS a) M B) : cuB B a h base n o m N := by
  obtain ⟨h1, ⟨h2, h3, h4⟩, ⟨h5, h6, h7⟩, h8, h9⟩ := hB
  have hr : mR B a 4 = mR M a 4 := by unfold mR; rw [hF.2]
  exact ⟨h1.ext hF.ext, ⟨hr.trans h2, hF.ext.1 _ _ _ h3, fun s hs => (hF.at (by unfold cuS; omega)).trans (h4 s hs)⟩, ⟨(hF.at (by unfold cuS; omega)).trans h5, (hF.at (by unfold cuS; omega)).trans h6, (hF.at (by unfold cuS; omega)).trans h7⟩, fun j hj => (hF.at (by unfold cuS; omega)).trans (h8 j hj), (hF.at (by unfold cuS; omega)).trans h9⟩
theorem pts_U {o p e s : Nat} {dp : Nat → Nat} (ho : o.testBit p = true) : pts o (dpU dp p e) (p + 1) s = if e = s then pts o dp p s ||| 2 ^ p else pts o dp p s := by
  show (if (o.testBit p && decide (dpU dp p e p = s)) = true then pts o (dpU dp p e) p s ||| 2 ^ p else pts o (dpU dp p e) p s) = _
  rw [ho, ← pts_cg (dp := dp) (dpU_lt), show dpU dp p e p = e by unfold dpU; rw [if_pos rfl], Bool.true_and]
  by_cases hq : e = s
  · rw [if_pos hq, if_pos (decide_eq_true hq)]
  · rw [if_neg hq, if_neg (by rw [decide_eq_false hq]; decide)]
theorem oD_1 (e : Nat) : oD e + nI 1 = nI e := by
  cases e with
  | zero => decide
  | succ e => rw [oD_s, nI_add]
theorem uP_U {o p e : Nat} {dp : Nat → Nat} (ho : o.testBit p = true) : uP o (dpU dp p e) (p + 1) = max (uP o dp p) (e + 1) := by
  show (if o.testBit p then max (uP o (dpU dp p e) p) (dpU dp p e p + 1) else uP o (dpU dp p e) p) = _
  rw [ho, if_pos rfl, ← uP_cg (dp := dp) (dpU_lt), show dpU dp p e p = e by unfold dpU; rw [if_pos rfl]]
section TURNS
variable {X : Cx} {d a h : Nat} {base : Nat → Bool} {n o m N : Nat} {M : Mem} {Q : Option AV → Mem → Prop}
theorem kp_shift {i e : Nat} {dp : Nat → Nat} (hK : cuK a h n o m N) (hB : cuB M a h base n o m N) (hT : cuT M a n o i e dp) (hi : i < N) (hu : uP o dp (plF n o i) ≤ m) (he : e ≤ m)
    (h1 : ¬ e < min (uP o dp (plF n o i) + 1) m → ∀ B, Fr (cuS a) M B → mI B a 8 = nI i → (∀ j, j < i → mI B (a + 3) j = nI (dp (plF n o j))) → (∀ j, j ≤ i → mI B (a + 4) j = nI (uP o dp (plF n o j))) → (∀ s, s < 8 → mI B (a + 1) s = nI (pts o dp (plF n o i) s)) → Q (some (vI (nI 0))) B)
    (h2 : e < min (uP o dp (plF n o i) + 1) m → ∀ B, Fr (cuS a) M B → cuT B a n o i (e + 1) dp → mI B (a + 4) (i + 1) = nI (uP o (dpU dp (plF n o i) e) (plF n o i + 1)) → Q (some (vI (nI 1))) B) : Cl X d 0 0 m_X0_shift [vR a] M Q := by
  obtain ⟨k1, ⟨k2, k3⟩, k4, k5, k6, k7⟩ := hK
  obtain ⟨b1, ⟨b2, b3, b4⟩, ⟨b5, b6, b7⟩, b8, b9⟩ := hB
  obtain ⟨t1, t2, t3, t4, t5⟩ := hT
  have hp := k5.1 i hi
  have ho := plF_op hp
  have h512 := p9 k1
  have hpl : ∀ s, pts o dp (plF n o i) s < 2 ^ n := fun s => Nat.lt_of_lt_of_le pts_lt (Nat.pow_le_pow_right (by decide) (by omega))
  have h38 : ∀ (B : Mem), Fr (cuS a) M B → mI B a 8 = nI i → (∀ j, j < i → mI B (a + 3) j = nI (dp (plF n o j))) → (∀ j, j ≤ i → mI B (a + 4) j = nI (uP o dp (plF n o j))) → (∀ s, s < 8 → mI B (a + 1) s = nI (pts o dp (plF n o i) s)) → WA X d 0 0 m_X0_shift 38 [some (vR a), some (vI (nI (2 ^ plF n o i))), some (vI (oD e)), none] [] B Q := fun B hF g8 g3 g4 g1 => by
    have hSB := b1.ext hF.ext
    have e7 : mI B a 7 = nI m := (hF.at (by unfold cuS; omega)).trans b7
    refine b_X0_shift_38 hSB (fun x1 ex => ?_)
    rw [oD_1] at ex
    rw [ex, g8, e7, na_ix (by omega), g4 i (Nat.le_refl _), na_lt (by omega) (by omega), na_lt (by omega) (by omega)]
    refine ⟨na_in (by omega) (by omega), fun q => h1 (by have := Nat.min_le_left (uP o dp (plF n o i) + 1) m; omega) B hF g8 g3 g4 g1, fun q => ⟨fun q2 => ⟨na_in (by omega) (by omega), na_in (by omega) (by omega), fun M1 e1 => ?_⟩, fun q2 => h1 (by have := Nat.min_le_right (uP o dp (plF n o i) + 1) m; omega) B hF g8 g3 g4 g1⟩⟩
    have hlim : e < min (uP o dp (plF n o i) + 1) m := Nat.lt_min.mpr ⟨by omega, q2⟩
    rw [na_ix (by omega), g1 e (by omega), na_or] at e1
    have hF1 : Fr (cuS a) B M1 := by rw [e1]; exact Fr.sI (Or.inr (Or.inl rfl))
    have x8 : mI M1 a 8 = nI i := by rw [e1, mI_sI_a (by omega)]; exact g8
    rw [x8]
    refine ⟨na_in (by omega) (by omega), fun M2 e2 => ?_⟩
    rw [na_ix (by omega)] at e2
    have hF2 : Fr (cuS a) M1 M2 := by rw [e2]; exact Fr.sI (Or.inr (Or.inr (Or.inl rfl)))
    have y8 : mI M2 a 8 = nI i := by rw [e2, mI_sI_a (by omega)]; exact x8
    have y4 : ∀ j, mI M2 (a + 4) j = mI B (a + 4) j := fun j => by rw [e2, mI_sI_a (by omega), e1, mI_sI_a (by omega)]
    rw [y8, na_ix (by omega), y4, g4 i (Nat.le_refl _), nI_add, nI_add, na_eq (by omega) (by omega)]
    have fin : ∀ v, v = max (uP o dp (plF n o i)) (e + 1) → WA X d 0 0 m_X0_shift 123 [some (vR a), none, none, none] [vI (nI v), vI (nI (i + 1)), vR (a + 4)] M2 Q := fun v hv => by
      have hS2 := (hSB.ext hF1.ext).ext hF2.ext
      refine b_X0_shift_123 hS2 ⟨11, hS2.2.2.2.2.2, na_in (by omega) (by omega), fun M3 e3 => ?_⟩
      rw [na_ix (by omega)] at e3
      have hF3 : Fr (cuS a) M2 M3 := by rw [e3]; exact Fr.sI (Or.inr (Or.inr (Or.inr ⟨rfl, by omega⟩)))
      refine h2 hlim M3 (((hF.trans hF1).trans hF2).trans hF3) ⟨?_, fun j hj => ?_, ?_, fun j hj => ?_, fun s hs => ?_⟩ ?_
      · rw [e3, mI_sI_a (by omega)]; exact y8
      · rw [e3, mI_sI_a (by omega), e2, mI_sI_i (by omega), e1, mI_sI_a (by omega)]; exact g3 j hj
      · rw [e3, mI_sI_a (by omega), e2, mI_sI_eq, oD_s]
      · rw [e3, mI_sI_i (by omega), y4]; exact g4 j hj
      · rw [e3, mI_sI_a (by omega), e2, mI_sI_a (by omega), e1, mI_sI, if_neg (show ¬ e + 1 = 0 by omega), Nat.add_sub_cancel, pts_U ho]
        by_cases hq : s = e
        · subst hq; rw [if_pos ⟨rfl, rfl⟩, if_pos rfl]
        · rw [if_neg (fun z => hq z.2), if_neg (fun z => hq z.symm)]; exact g1 s hs
      · rw [e3, mI_sI_eq, hv, uP_U ho]
    refine ⟨na_in (by omega) (by omega), fun q3 => ⟨na_in (by omega) (by omega), fin _ ?_⟩, fun q3 => fin _ ?_⟩
    · rw [Nat.max_eq_left (by omega)]
    · rw [q3, Nat.max_eq_right (by omega)]
  refine e_X0_shift (b_X0_shift_0 b1 ?_)
  rw [t1, na_ix (by omega), b8 i (by omega), t3]
  refine ⟨na_in (by omega) (by omega), fun x1 ex => ⟨na_in (by omega) (by omega), fun x2 e2 => ?_⟩⟩
  rw [na_1shl (by omega)] at ex
  rw [ex, e2, oD_n (by omega)]
  refine ⟨fun q => h38 M Fr.refl t1 t2 t4 (fun s hs => by have := t5 s hs; rw [if_pos q] at this; exact this), fun q => ?_⟩
  obtain ⟨e', rfl⟩ : ∃ e', e = e' + 1 := ⟨e - 1, by omega⟩
  rw [oD_s]
  refine ⟨na_in (by omega) (by omega), na_in (by omega) (by omega), fun M1 e1 => ?_⟩
  have t5' : ∀ s, s < 8 → mI M (a + 1) s = nI (if e' = s then pts o dp (plF n o i) s ||| 2 ^ plF n o i else pts o dp (plF n o i) s) := fun s hs => by
    have := t5 s hs
    rw [if_neg (by omega), Nat.add_sub_cancel, pts_U ho] at this
    exact this
  rw [na_ix (by omega), t5' e' (by omega), if_pos rfl, na_dif, dif_or pts_lt] at e1
  have hF1 : Fr (cuS a) M M1 := by rw [e1]; exact Fr.sI (Or.inr (Or.inl rfl))
  have := h38 M1 hF1 (by rw [e1, mI_sI_a (by omega)]; exact t1) (fun j hj => by rw [e1, mI_sI_a (by omega)]; exact t2 j hj) (fun j hj => by rw [e1, mI_sI_a (by omega)]; exact t4 j hj) (fun s hs => by
    rw [e1, mI_sI]
    by_cases hq : s = e'
    · subst hq; rw [if_pos ⟨rfl, rfl⟩]
    · rw [if_neg (fun z => hq z.2), t5' s hs, if_neg (fun z => hq z.symm)])
  rw [oD_s] at this
  exact this
theorem kp_isHopeful {i u : Nat} {pt : Nat → Nat} (hK : cuK a h n o m N) (hB : cuB M a h base n o m N) (hi : i < N) (h8 : mI M a 8 = nI i) (hu : mI M (a + 4) (i + 1) = nI u) (hum : u ≤ m) (hp : ∀ s, s < 8 → mI M (a + 1) s = nI (pt s)) (hpt : ∀ s, pt s < 2 ^ plF n o (i + 1))
    (h1 : (u + (N - (i + 1)) < m ∨ ∃ k, k < u ∧ hpF base n (n - plF n o (i + 1)) (pt k) = false) → Q (some (vI (nI 0))) M)
    (h2 : m ≤ u + (N - (i + 1)) → (∀ k, k < u → hpF base n (n - plF n o (i + 1)) (pt k) = true) → Q (some (vI (nI 1))) M) : Cl X d 0 0 m_X0_isHopeful [vR a] M Q := by
  obtain ⟨k1, ⟨k2, k3⟩, k4, k5, k6, k7⟩ := hK
  obtain ⟨b1, ⟨b2, b3, b4⟩, ⟨b5, b6, b7⟩, b8, b9⟩ := hB
  have hple := plF_le (n := n) (o := o) (i + 1)
  have h512 := p9 k1
  have hpp : 2 ^ plF n o (i + 1) ≤ 2 ^ n := Nat.pow_le_pow_right (by decide) hple
  refine e_X0_isHopeful (b_X0_isHopeful_0 b1 ?_)
  rw [h8, nI_add, na_ix (by omega), b6, b7, hu, b8 (i + 1) (by omega), na_sub (by omega), na_sub (by omega)]
  refine ⟨na_in (by omega) (by omega), fun x1 e1 x2 e2 => ?_⟩
  rw [e1, e2, nI_add, na_le (by omega) (by omega)]
  refine ⟨fun q => ⟨na_in (by omega) (by omega), fun x3 e3 => ?_⟩, fun q => h1 (Or.inl (by omega))⟩
  rw [e3]
  have key : ∀ r k, k + r = u → (∀ k', k' < k → hpF base n (n - plF n o (i + 1)) (pt k') = true) → WA X d 0 0 m_X0_isHopeful 51 [some (vR a), some (vI (nI u)), none, some (vI (nI (plF n o (i + 1)))), some (vI (nI k))] [] M Q := by
    intro r
    induction r with
    | zero =>
      intro k hk hall
      obtain rfl : k = u := by omega
      exact b_X0_isHopeful_51 b1 ⟨fun _ => h2 (by omega) hall, fun q2 => absurd (by rw [na_le (by omega) (by omega)]; exact Nat.le_refl _) q2⟩
    | succ r ih =>
      intro k hk hall
      have hptk := hpt k
      have hH : haF base n 0 (pt k) < 2 ^ 10 := Nat.lt_of_lt_of_le haF_lt (Nat.pow_le_pow_right (by decide) (by omega))
      refine b_X0_isHopeful_51 b1 ⟨fun q2 => absurd (by rw [na_le (by omega) (by omega)] at q2; omega) (id : False → False), fun _ => ⟨na_in (by omega) (by omega), 2 ^ n, by rw [b2]; exact b3, ?_⟩⟩
      rw [na_ix (by omega), hp k (by omega), na_ix (by omega), b2, b4 _ (by omega), bit0 (by omega) (by omega), haF_bit (Nat.zero_le _) hple hptk]
      refine ⟨fun q2 => absurd q2 (gd_hi (by omega) (by omega)), fun _ => ⟨na_in (by omega) (by omega), na_in (by omega) (by omega), fun q2 => ?_, fun q2 => h1 (Or.inr ⟨k, by omega, q2⟩)⟩⟩
      rw [nI_add]
      refine ih (k + 1) (by omega) (fun k' hk' => ?_)
      by_cases hq : k' = k
      · subst hq; simpa using q2
      · exact hall k' (by omega)
  exact key u 0 (by omega) (fun k' hk' => by omega)
end TURNS
