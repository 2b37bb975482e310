/-! THE CLASS: how far a cut is from the votes -/
theorem vt_all (L : LandT) (k : Nat) : vtL L k (whL L) = allV L k := by
  unfold vtL allV
  exact smF_lt (fun p hp => by rw [tb_wh, decide_eq_true hp, if_pos rfl])
theorem hd_all (L : LandT) : hdL L (whL L) = allN L := by
  rw [hdL_eq, vt_all, vt_all, vt_all]; rfl
section FAR
variable {X : Cx} {d a : Nat} {L : LandT} {M : Mem} {Q : Option AV → Mem → Prop}
theorem kp_farUpper {c k : Nat} (hd : 2 ≤ d) (hR : laR M a L) (hk : k < 3) (h : Q (some (vI (nI (farU L c k)))) M) : Cl X d 0 0 m_X3_farUpper [vR a, vI (nI (wiL L c k)), vI (nI k)] M Q := by
  obtain ⟨hC, hF, hO⟩ := hR
  have hs4 := hO.2.1.2.1
  have hw := wiL_le L c k
  have hwl := whL_lt L
  have v := fun k => allV_le hO.1.2 hO.2.2.2.2.1 k
  have v0 := v 0
  have v1 := v 1
  have v2 := v 2
  have vk := v k
  have hN : allN L ≤ 2673 := by unfold allN; omega
  have m1 : wiL L c k * allN L ≤ 4 * 2673 := Nat.mul_le_mul (by omega) hN
  have m2 : allV L k * L.2.1 ≤ 891 * 4 := Nat.mul_le_mul vk (by omega)
  have e4 : mI M a 4 = nI (whL L) := hC.2.2.1.2.2.2.2
  refine e_X3_farUpper (b_X3_farUpper_0 hC.1 (by omega) ?_)
  rw [e4]
  refine kp_headsIn (by omega) hC hO hwl (hF _ hwl).1 ⟨_, rfl, Ext.refl _, ?_⟩
  rw [e4]
  refine kp_votesIn hC hO hwl hk (hF _ hwl).1 ⟨_, rfl, Ext.refl _, ?_⟩
  rw [hd_all, vt_all, hC.2.2.1.2.1, pk_mul, pk_mul, sI_abs (by omega) (by omega)]
  exact h
theorem kp_farLower (hd : 2 ≤ d) (hR : laR M a L) (h : Q (some (vI (nI (farD L)))) M) : Cl X d 0 0 m_X3_farLower [vR a] M Q := by
  obtain ⟨hC, hF, hO⟩ := hR
  have hs4 := hO.2.1.2.1
  have hs1 := hO.2.1.1
  have hwl := whL_lt L
  have v := fun k => allV_le hO.1.2 hO.2.2.2.2.1 k
  have v0 := v 0
  have v1 := v 1
  have v2 := v 2
  have hN : allN L ≤ 2673 := by unfold allN; omega
  have m3 : allN L * L.2.1 ≤ 2673 * 4 := Nat.mul_le_mul hN (by omega)
  have e4 : mI M a 4 = nI (whL L) := hC.2.2.1.2.2.2.2
  refine e_X3_farLower (b_X3_farLower_0 hC.1 (by omega) ?_)
  rw [e4]
  refine kp_headsIn (by omega) hC hO hwl (hF _ hwl).1 ⟨_, rfl, Ext.refl _, ?_⟩
  rw [hd_all, hC.2.2.1.2.1, pk_mul, maxI_n (by decide) (by omega)]
  have e : max 1 (allN L * L.2.1) = farD L := by
    unfold farD
    by_cases hz : allN L = 0
    · rw [if_pos hz, hz]; simp
    · rw [if_neg hz, Nat.mul_comm]
      have : 1 ≤ L.2.1 * allN L := Nat.mul_pos hs1 (by omega)
      exact Nat.max_eq_right this
  rw [e]; exact h
theorem kp_common {u l : Nat} (hu : u < 20000) (hl : l < 2 ^ 31) (h : Q (some (vI (nI (Nat.gcd l u)))) M) : Cl X d 0 0 m_X10_commonPart [vI (nI u), vI (nI l)] M Q := by
  have key : ∀ f x y i, y < f → x < 2 ^ 31 → y < 20000 → i + f < 1000000 → Q (some (vI (nI (Nat.gcd x y)))) M → WA X d 0 0 m_X10_commonPart 7 [none, none, some (vI (nI x)), some (vI (nI y)), some (vI (nI i)), none] [] M Q := by
    intro f
    induction f with
    | zero => intro x y i h1; exact absurd h1 (Nat.not_lt_zero _)
    | succ f ih =>
      intro x y i h1 h2 h3 h4 hq
      refine b_X10_commonPart_7 ⟨fun q => absurd (by rw [na_le (by decide) (by omega)] at q; omega) (id : False → False), fun _ => ⟨fun q => ?_, fun q => ?_⟩⟩
      · rw [na_le (by omega) (by decide)] at q
        obtain rfl : y = 0 := by omega
        rw [Nat.gcd_zero_right] at hq; exact hq
      · rw [na_le (by omega) (by decide)] at q
        have hpos : 0 < y := by omega
        have hlt := Nat.mod_lt x hpos
        refine ⟨fun z => by rw [na_eq (by omega) (by decide)] at z; omega, fun x1 e1 => ?_⟩
        rw [na_rem h2 hpos (by omega)] at e1
        rw [e1, nI_add]
        refine ih y (x % y) (i + 1) (by omega) (by omega) (by omega) (by omega) ?_
        have e : Nat.gcd x y = Nat.gcd y (x % y) := by rw [Nat.gcd_comm x y, Nat.gcd_rec, Nat.gcd_comm]
        rw [← e]; exact hq
  exact e_X10_commonPart (b_X10_commonPart_0 (key 20001 l u 0 (by omega) hl hu (by decide) h))
end FAR
