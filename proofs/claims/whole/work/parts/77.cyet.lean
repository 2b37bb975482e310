/-! HOW THE CLASS FINDS CUTS: what a cutter has yet to give -/
def cuX (M : Mem) (a b n o m N x : Nat) : Prop := ∃ dp, cuT M a n o N 0 dp ∧ (∀ p, dp p < m) ∧ cP b o dp n = x
def cuW (M : Mem) (a h : Nat) (base : Nat → Bool) (b n o m N : Nat) (xs : List Nat) : Prop := cuK a h n o m N ∧ cuB M a h base n o m N ∧ (1 ≤ b ∧ b ≤ 3 ∧ m ≤ 2 ^ b) ∧ ∃ dp, (∀ p, dp p < m) ∧ ((0 < N ∧ cuT M a n o 0 0 dp ∧ xs = kdF base b n o m dp (plF n o 0) 0) ∨ (cuT M a n o N 0 dp ∧ xs = upF base b n o m dp N ∧ upC n o m N dp N ≤ 200000))
section NEXT
variable {X : Cx} {d a h : Nat} {base : Nat → Bool} {b n o m N : Nat} {M : Mem} {Q : Option AV → Mem → Prop}
theorem kp_next {xs : List Nat} (hd : 2 ≤ d) (hW : cuW M a h base b n o m N xs) (h0 : xs = [] → ∀ B, Fr (cuS a) M B → cuB B a h base n o m N → Q (some (vI (nI 0))) B)
    (h1 : ∀ x xs', xs = x :: xs' → ∀ B, Fr (cuS a) M B → cuW B a h base b n o m N xs' → cuX B a b n o m N x → (∀ s, s < m → mI B (a + 1) s = nI (sOB b n x o s)) → Q (some (vI (nI 1))) B) : Cl X d 0 0 m_X0_next [vR a] M Q := by
  obtain ⟨hK, hB, ⟨hb1, hb3, hm⟩, dp, hdp, hst⟩ := hW
  have hN9 := hK.2.2.1
  have hm8 := hK.2.1
  have hPN := hK.2.2.2.1.2
  have found : ∀ x xs', xs = x :: xs' → ∀ B dp', Fr (cuS a) M B → cuB B a h base n o m N → cuT B a n o N 0 dp' → (∀ p, dp' p < m) → cP b o dp' n = x → upF base b n o m dp' N = xs' → upC n o m N dp' N ≤ 200000 → uP o dp' n = m → (∀ k, k < m → sOB b n x o k = pts o dp' n k) → Q (some (vI (nI 1))) B := fun x xs' hx B dp' c1 c2 c3 c4 c5 c6 c7 c8 c9 => by
    refine h1 x xs' hx B c1 ⟨hK, c2, ⟨hb1, hb3, hm⟩, dp', c4, Or.inr ⟨c3, c6.symm, c7⟩⟩ ⟨dp', c3, c4, c5⟩ (fun s hs => ?_)
    have := c3.2.2.2.2 s (by omega)
    rw [if_pos rfl, hPN] at this
    rw [this, c9 s hs]
  rcases hst with ⟨hN, hT, hxs⟩ | ⟨hT, hxs, hc⟩
  · subst hxs
    refine e_X0_next (b_X0_next_0 hB.1 ⟨fun _ => ?_, fun q => absurd (by rw [hT.1, hB.2.2.1.2.1, na_eq (by omega) (by omega)] at q; omega) (id : False → False)⟩)
    have hit := itC_dec m (by omega) N (by omega)
    have hup0 : uP o dp (plF n o 0) = 0 := by
      have := (enS_nx (b := b) (m := m) (dp := dp) (o := o) (q := 0) (n := n) (Nat.zero_le _)).2.1
      exact this
    refine wa_next (b := b) (base := base) (by omega) hK hm 200000 0 0 dp M 0 Fr.refl hB hN hT (Nat.zero_le _) hdp ?_ (by decide) (fun hx B hF hBB => h0 (by rw [← hx]; exact (List.append_nil _).symm) B hF hBB) (fun x xs' hx => found x xs' (by rw [← hx]; exact (List.append_nil _).symm))
    rw [hup0, kC_0, show N - (0 + 1) + 1 = N by omega]
    show itC m N 0 + 0 ≤ _
    omega
  · subst hxs
    refine e_X0_next (b_X0_next_0 hB.1 ⟨fun q => absurd (by rw [hT.1, hB.2.2.1.2.1]) q, fun _ M1 e1 => ?_⟩)
    rw [hT.1] at e1
    have hF1 : Fr (cuS a) M M1 := by rw [e1]; exact Fr.sI (Or.inl ⟨rfl, rfl⟩)
    have hB1 := hB.fr hK.2.2.2.2.2 hF1
    cases N with
    | zero =>
      have e8 : mI M1 a 8 = (-1) := by rw [e1, mI_sI_eq]; decide
      refine b_X0_next_23 hB1.1 (by omega) ⟨fun q => absurd q (by decide), fun _ => ⟨fun _ => h0 rfl M1 hF1 hB1, fun q => absurd (by rw [e8]; decide) q⟩⟩
    | succ i =>
      have hpi := hK.2.2.2.1.1 i (by omega)
      rw [na_sub (by omega), Nat.add_sub_cancel] at e1
      unfold upF at h0 found
      unfold upC at hc
      refine wa_next (b := b) (base := base) (by omega) hK hm 200000 i (dp (plF n o i) + 1) dp M1 0 hF1 hB1 (by omega) ⟨?_, fun j hj => ?_, ?_, fun j hj => ?_, fun s hs => ?_⟩ (hdp _) hdp hc (by decide) (fun hx B hF hBB => h0 hx B hF hBB) (fun x xs' hx => found x xs' hx)
      · rw [e1, mI_sI_eq]
      · rw [e1, mI_sI_a (by omega)]; exact hT.2.1 j (by omega)
      · rw [e1, mI_sI_a (by omega), oD_s]; exact hT.2.1 i (by omega)
      · rw [e1, mI_sI_a (by omega)]; exact hT.2.2.2.1 j (by omega)
      · rw [e1, mI_sI_a (by omega), if_neg (by omega), Nat.add_sub_cancel, dpU_self]
        rw [← (enS_nx (b := b) (m := m) (dp := dp) (o := o) (q := plF n o i + 1) (show plF n o i + 1 ≤ n by omega)).2.2 s]
        have := hT.2.2.2.2 s hs
        rw [if_pos rfl] at this
        exact this
theorem kp_number0 {x : Nat} (hK : cuK a h n o m N) (hB : cuB M a h base n o m N) (hb : 1 ≤ b ∧ b ≤ 3) (hm : m ≤ 2 ^ b) (hX : cuX M a b n o m N x) (hq : Q (some (vI (nI x))) M) : Cl X d 0 0 m_X0_number [vR a, vI (nI b)] M Q := by
  obtain ⟨dp, hT, hdp, hx⟩ := hX
  have hN9 := hK.2.2.1
  have hPN := hK.2.2.2.1.2
  have hn9 := hK.1
  have key : ∀ r i, i + r = N → WA X d 0 0 m_X0_number 4 [some (vR a), some (vI (nI b)), some (vI (nI (cP b o dp (plF n o i) * (2 ^ b) ^ (n - plF n o i)))), some (vI (nI i))] [] M Q := by
    intro r
    induction r with
    | zero =>
      intro i hi
      obtain rfl : i = N := by omega
      refine b_X0_number_4 hB.1 ⟨fun _ => ?_, fun q => absurd (by rw [hB.2.2.1.2.1, na_le (by omega) (by omega)]; exact Nat.le_refl _) q⟩
      rw [hPN, Nat.sub_self, Nat.pow_zero, Nat.mul_one, hx]; exact hq
    | succ r ih =>
      intro i hi
      have hp := hK.2.2.2.1.1 i (by omega)
      have ho := plF_op hp
      have hdb := Nat.lt_of_lt_of_le (hdp (plF n o i)) hm
      have hbk : b * (n - 1 - plF n o i) ≤ 3 * 9 := Nat.mul_le_mul hb.2 (by omega)
      refine b_X0_number_4 hB.1 ⟨fun q => absurd (by rw [hB.2.2.1.2.1, na_le (by omega) (by omega)] at q; omega) (id : False → False), fun _ => ⟨na_in (by omega) (by omega), na_in (by omega) (by omega), fun x1 ex => ?_⟩⟩
      rw [na_ix (by omega), hT.2.1 i (by omega), hB.2.2.1.1, hB.2.2.2.1 i (by omega), na_sub (by omega), na_sub (by omega), pk_mul, na_shl _ (by omega), na_or] at ex
      have e1 : cP b o dp (plF n o (i + 1)) * (2 ^ b) ^ (n - plF n o (i + 1)) = (2 ^ b * cP b o dp (plF n o i) + dp (plF n o i)) * 2 ^ (b * (n - 1 - plF n o i)) := by
        obtain ⟨h1, h2, h3, h4⟩ := nxP_ok (n := n) (o := o) (q := plF n o i + 1) (by omega)
        obtain ⟨k2, hk2⟩ : ∃ k2, nxP n o (plF n o i + 1) = (plF n o i + 1) + k2 := ⟨nxP n o (plF n o i + 1) - (plF n o i + 1), by omega⟩
        have hpl : plF n o (i + 1) = (plF n o i + 1) + k2 := hk2
        rw [hk2] at h2 h4
        rw [hpl, (cP_sk (b := b) (dp := dp) k2 h4).1]
        show (2 ^ b * cP b o dp (plF n o i) + (if o.testBit (plF n o i) then dp (plF n o i) else 0)) * _ * _ = _
        rw [ho, if_pos rfl, Nat.mul_assoc, ← Nat.pow_add, Nat.pow_mul]
        congr 2
        omega
      have e2 : cP b o dp (plF n o i) * (2 ^ b) ^ (n - plF n o i) = (2 ^ b * cP b o dp (plF n o i)) <<< (b * (n - 1 - plF n o i)) := by
        rw [Nat.shiftLeft_eq, Nat.pow_mul, show n - plF n o i = (n - 1 - plF n o i) + 1 by omega, Nat.pow_succ, Nat.mul_comm (2 ^ b) (cP b o dp (plF n o i)), Nat.mul_assoc, Nat.mul_comm ((2 ^ b) ^ (n - 1 - plF n o i))]
      rw [e2, ← Nat.shiftLeft_or_distrib, ← Nat.two_pow_add_eq_or_of_lt hdb, Nat.shiftLeft_eq, ← e1] at ex
      rw [ex, nI_add]
      exact ih (i + 1) (by omega)
  have e0 : cP b o dp (plF n o 0) * (2 ^ b) ^ (n - plF n o 0) = 0 := by
    obtain ⟨h1, h2, h3, h4⟩ := nxP_ok (n := n) (o := o) (q := 0) (Nat.zero_le _)
    have := (cP_sk (b := b) (o := o) (dp := dp) (q := 0) (nxP n o 0) (fun p a c => h4 p a (by omega))).1
    rw [Nat.zero_add] at this
    show cP b o dp (nxP n o 0) * _ = 0
    rw [this]
    show 0 * _ * _ = 0
    rw [Nat.zero_mul, Nat.zero_mul]
  have := key N 0 (by omega)
  rw [e0] at this
  exact e_X0_number (b_X0_number_0 hB.1 this)
end NEXT
