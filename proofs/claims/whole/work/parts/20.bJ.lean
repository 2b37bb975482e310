-- java/lang/Integer.numberOfTrailingZeros(I)I
theorem b_J6_numberOfTrailingZeros_0f7a4_0 {X : Cx} {d kc ns : Nat} {M : Mem} {Q : Option AV → Mem → Prop} {l0 : Int32}
    (h : ∀ x1 : Int32, x1 = ((l0 ^^^ (-1)) &&& (l0 - (nI 1))) → ((nI 0 < x1 → ((x1 ≤ (nI 65536) → WA X d kc ns m_J6_numberOfTrailingZeros_0f7a4 34 [some (vI x1), some (vI (nI 1))] [] M Q) ∧ (¬ x1 ≤ (nI 65536) → ∀ x2 : Int32, x2 = (ushr x1 (nI 16)) → WA X d kc ns m_J6_numberOfTrailingZeros_0f7a4 34 [some (vI x2), some (vI ((nI 1) + (nI 16)))] [] M Q))) ∧ (¬ nI 0 < x1 → Q (some (vI (x1 &&& (nI 32)))) M))) :
    WA X d kc ns m_J6_numberOfTrailingZeros_0f7a4 0 [some (vI l0), none] [] M Q := by
  refine x_iload_n (tk K_J6_numberOfTrailingZeros_0f7a4 0 rfl) rfl rfl ?_
  refine x_iconst (tk K_J6_numberOfTrailingZeros_0f7a4 1 rfl) ic_m1 ?_
  refine x_ixor (tk K_J6_numberOfTrailingZeros_0f7a4 2 rfl) ?_
  refine x_iload_n (tk K_J6_numberOfTrailingZeros_0f7a4 3 rfl) rfl rfl ?_
  refine x_iconst (tk K_J6_numberOfTrailingZeros_0f7a4 4 rfl) ic_1 ?_
  refine x_isub (tk K_J6_numberOfTrailingZeros_0f7a4 5 rfl) ?_
  refine x_iand (tk K_J6_numberOfTrailingZeros_0f7a4 6 rfl) ?_
  have h := h _ rfl
  refine x_istore_n (L' := [some (vI _), none]) (tk K_J6_numberOfTrailingZeros_0f7a4 7 rfl) rfl rfl (Nat.le_of_ble_eq_true rfl) rfl ?_
  refine x_iload_n (tk K_J6_numberOfTrailingZeros_0f7a4 8 rfl) rfl rfl ?_
  refine x_if_gt (t := 17) (tk K_J6_numberOfTrailingZeros_0f7a4 9 rfl) rfl (fun hc => ?_) (fun hc => ?_)
  · have h := h.1 hc
    refine x_iconst (tk K_J6_numberOfTrailingZeros_0f7a4 14 rfl) ic_1 ?_
    refine x_istore_n (L' := [some (vI _), some (vI _)]) (tk K_J6_numberOfTrailingZeros_0f7a4 15 rfl) rfl rfl (Nat.le_of_ble_eq_true rfl) rfl ?_
    refine x_iload_n (tk K_J6_numberOfTrailingZeros_0f7a4 16 rfl) rfl rfl ?_
    refine x_ldcw (tk K_J6_numberOfTrailingZeros_0f7a4 17 rfl) kc_J6_264 ?_
    refine x_icmp_le (t := 34) (tk K_J6_numberOfTrailingZeros_0f7a4 18 rfl) rfl (fun hc => ?_) (fun hc => ?_)
    · have h := h.1 hc
      exact h
    · have h := h.2 hc
      refine x_iincW (L' := [some (vI _), some (vI _)]) (tk K_J6_numberOfTrailingZeros_0f7a4 19 rfl) rfl ic_16 rfl (Nat.le_of_ble_eq_true rfl) rfl ?_
      refine x_iload_n (tk K_J6_numberOfTrailingZeros_0f7a4 20 rfl) rfl rfl ?_
      refine x_bipush (tk K_J6_numberOfTrailingZeros_0f7a4 21 rfl) bp_16 ?_
      refine x_iushr (tk K_J6_numberOfTrailingZeros_0f7a4 22 rfl) ?_
      have h := h _ rfl
      refine x_istore_n (L' := [some (vI _), some (vI _)]) (tk K_J6_numberOfTrailingZeros_0f7a4 23 rfl) rfl rfl (Nat.le_of_ble_eq_true rfl) rfl ?_
      exact h
  · have h := h.2 hc
    refine x_iload_n (tk K_J6_numberOfTrailingZeros_0f7a4 10 rfl) rfl rfl ?_
    refine x_bipush (tk K_J6_numberOfTrailingZeros_0f7a4 11 rfl) bp_32 ?_
    refine x_iand (tk K_J6_numberOfTrailingZeros_0f7a4 12 rfl) ?_
    exact x_ireturn (tk K_J6_numberOfTrailingZeros_0f7a4 13 rfl) rfl rfl h

theorem b_J6_numberOfTrailingZeros_0f7a4_34 {X : Cx} {d kc ns : Nat} {M : Mem} {Q : Option AV → Mem → Prop} {l0 : Int32} {l1 : Int32}
    (h : ((l0 ≤ (nI 256) → WA X d kc ns m_J6_numberOfTrailingZeros_0f7a4 49 [some (vI l0), some (vI l1)] [] M Q) ∧ (¬ l0 ≤ (nI 256) → ∀ x1 : Int32, x1 = (ushr l0 (nI 8)) → WA X d kc ns m_J6_numberOfTrailingZeros_0f7a4 49 [some (vI x1), some (vI (l1 + (nI 8)))] [] M Q))) :
    WA X d kc ns m_J6_numberOfTrailingZeros_0f7a4 34 [some (vI l0), some (vI l1)] [] M Q := by
  refine x_iload_n (tk K_J6_numberOfTrailingZeros_0f7a4 24 rfl) rfl rfl ?_
  refine x_sipush (tk K_J6_numberOfTrailingZeros_0f7a4 25 rfl) sp_256 ?_
  refine x_icmp_le (t := 49) (tk K_J6_numberOfTrailingZeros_0f7a4 26 rfl) rfl (fun hc => ?_) (fun hc => ?_)
  · have h := h.1 hc
    exact h
  · have h := h.2 hc
    refine x_iincW (L' := [some (vI _), some (vI _)]) (tk K_J6_numberOfTrailingZeros_0f7a4 27 rfl) rfl ic_8 rfl (Nat.le_of_ble_eq_true rfl) rfl ?_
    refine x_iload_n (tk K_J6_numberOfTrailingZeros_0f7a4 28 rfl) rfl rfl ?_
    refine x_bipush (tk K_J6_numberOfTrailingZeros_0f7a4 29 rfl) bp_8 ?_
    refine x_iushr (tk K_J6_numberOfTrailingZeros_0f7a4 30 rfl) ?_
    have h := h _ rfl
    refine x_istore_n (L' := [some (vI _), some (vI _)]) (tk K_J6_numberOfTrailingZeros_0f7a4 31 rfl) rfl rfl (Nat.le_of_ble_eq_true rfl) rfl ?_
    exact h

theorem b_J6_numberOfTrailingZeros_0f7a4_49 {X : Cx} {d kc ns : Nat} {M : Mem} {Q : Option AV → Mem → Prop} {l0 : Int32} {l1 : Int32}
    (h : ((l0 ≤ (nI 16) → WA X d kc ns m_J6_numberOfTrailingZeros_0f7a4 62 [some (vI l0), some (vI l1)] [] M Q) ∧ (¬ l0 ≤ (nI 16) → ∀ x1 : Int32, x1 = (ushr l0 (nI 4)) → WA X d kc ns m_J6_numberOfTrailingZeros_0f7a4 62 [some (vI x1), some (vI (l1 + (nI 4)))] [] M Q))) :
    WA X d kc ns m_J6_numberOfTrailingZeros_0f7a4 49 [some (vI l0), some (vI l1)] [] M Q := by
  refine x_iload_n (tk K_J6_numberOfTrailingZeros_0f7a4 32 rfl) rfl rfl ?_
  refine x_bipush (tk K_J6_numberOfTrailingZeros_0f7a4 33 rfl) bp_16 ?_
  refine x_icmp_le (t := 62) (tk K_J6_numberOfTrailingZeros_0f7a4 34 rfl) rfl (fun hc => ?_) (fun hc => ?_)
  · have h := h.1 hc
    exact h
  · have h := h.2 hc
    refine x_iincW (L' := [some (vI _), some (vI _)]) (tk K_J6_numberOfTrailingZeros_0f7a4 35 rfl) rfl ic_4 rfl (Nat.le_of_ble_eq_true rfl) rfl ?_
    refine x_iload_n (tk K_J6_numberOfTrailingZeros_0f7a4 36 rfl) rfl rfl ?_
    refine x_iconst (tk K_J6_numberOfTrailingZeros_0f7a4 37 rfl) ic_4 ?_
    refine x_iushr (tk K_J6_numberOfTrailingZeros_0f7a4 38 rfl) ?_
    have h := h _ rfl
    refine x_istore_n (L' := [some (vI _), some (vI _)]) (tk K_J6_numberOfTrailingZeros_0f7a4 39 rfl) rfl rfl (Nat.le_of_ble_eq_true rfl) rfl ?_
    exact h

theorem b_J6_numberOfTrailingZeros_0f7a4_62 {X : Cx} {d kc ns : Nat} {M : Mem} {Q : Option AV → Mem → Prop} {l0 : Int32} {l1 : Int32}
    (h : ((l0 ≤ (nI 4) → Q (some (vI (l1 + (ushr l0 (nI 1))))) M) ∧ (¬ l0 ≤ (nI 4) → ∀ x1 : Int32, x1 = (ushr l0 (nI 2)) → Q (some (vI ((l1 + (nI 2)) + (ushr x1 (nI 1))))) M))) :
    WA X d kc ns m_J6_numberOfTrailingZeros_0f7a4 62 [some (vI l0), some (vI l1)] [] M Q := by
  refine x_iload_n (tk K_J6_numberOfTrailingZeros_0f7a4 40 rfl) rfl rfl ?_
  refine x_iconst (tk K_J6_numberOfTrailingZeros_0f7a4 41 rfl) ic_4 ?_
  refine x_icmp_le (t := 74) (tk K_J6_numberOfTrailingZeros_0f7a4 42 rfl) rfl (fun hc => ?_) (fun hc => ?_)
  · have h := h.1 hc
    refine x_iload_n (tk K_J6_numberOfTrailingZeros_0f7a4 48 rfl) rfl rfl ?_
    refine x_iload_n (tk K_J6_numberOfTrailingZeros_0f7a4 49 rfl) rfl rfl ?_
    refine x_iconst (tk K_J6_numberOfTrailingZeros_0f7a4 50 rfl) ic_1 ?_
    refine x_iushr (tk K_J6_numberOfTrailingZeros_0f7a4 51 rfl) ?_
    refine x_iadd (tk K_J6_numberOfTrailingZeros_0f7a4 52 rfl) ?_
    exact x_ireturn (tk K_J6_numberOfTrailingZeros_0f7a4 53 rfl) rfl rfl h
  · have h := h.2 hc
    refine x_iincW (L' := [some (vI _), some (vI _)]) (tk K_J6_numberOfTrailingZeros_0f7a4 43 rfl) rfl ic_2 rfl (Nat.le_of_ble_eq_true rfl) rfl ?_
    refine x_iload_n (tk K_J6_numberOfTrailingZeros_0f7a4 44 rfl) rfl rfl ?_
    refine x_iconst (tk K_J6_numberOfTrailingZeros_0f7a4 45 rfl) ic_2 ?_
    refine x_iushr (tk K_J6_numberOfTrailingZeros_0f7a4 46 rfl) ?_
    have h := h _ rfl
    refine x_istore_n (L' := [some (vI _), some (vI _)]) (tk K_J6_numberOfTrailingZeros_0f7a4 47 rfl) rfl rfl (Nat.le_of_ble_eq_true rfl) rfl ?_
    refine x_iload_n (tk K_J6_numberOfTrailingZeros_0f7a4 48 rfl) rfl rfl ?_
    refine x_iload_n (tk K_J6_numberOfTrailingZeros_0f7a4 49 rfl) rfl rfl ?_
    refine x_iconst (tk K_J6_numberOfTrailingZeros_0f7a4 50 rfl) ic_1 ?_
    refine x_iushr (tk K_J6_numberOfTrailingZeros_0f7a4 51 rfl) ?_
    refine x_iadd (tk K_J6_numberOfTrailingZeros_0f7a4 52 rfl) ?_
    exact x_ireturn (tk K_J6_numberOfTrailingZeros_0f7a4 53 rfl) rfl rfl h

theorem e_J6_numberOfTrailingZeros_0f7a4 {X : Cx} {d kc ns : Nat} {M : Mem} {Q : Option AV → Mem → Prop} {a0 : Int32} (h : WA X d kc ns m_J6_numberOfTrailingZeros_0f7a4 0 [some (vI a0), none] [] M Q) : Cl X d kc ns m_J6_numberOfTrailingZeros_0f7a4 [vI a0] M Q := Cl.intro (k := 1) (by decide) rfl rfl h

-- java/lang/Integer.bitCount(I)I
theorem b_J6_bitCount_0f7a4_0 {X : Cx} {d kc ns : Nat} {M : Mem} {Q : Option AV → Mem → Prop} {l0 : Int32}
    (h : ∀ x1 : Int32, x1 = (l0 - ((ushr l0 (nI 1)) &&& (nI 1431655765))) → ∀ x2 : Int32, x2 = ((x1 &&& (nI 858993459)) + ((ushr x1 (nI 2)) &&& (nI 858993459))) → ∀ x3 : Int32, x3 = ((x2 + (ushr x2 (nI 4))) &&& (nI 252645135)) → ∀ x4 : Int32, x4 = (x3 + (ushr x3 (nI 8))) → ∀ x5 : Int32, x5 = (x4 + (ushr x4 (nI 16))) → Q (some (vI (x5 &&& (nI 63)))) M) :
    WA X d kc ns m_J6_bitCount_0f7a4 0 [some (vI l0)] [] M Q := by
  refine x_iload_n (tk K_J6_bitCount_0f7a4 0 rfl) rfl rfl ?_
  refine x_iload_n (tk K_J6_bitCount_0f7a4 1 rfl) rfl rfl ?_
  refine x_iconst (tk K_J6_bitCount_0f7a4 2 rfl) ic_1 ?_
  refine x_iushr (tk K_J6_bitCount_0f7a4 3 rfl) ?_
  refine x_ldcw (tk K_J6_bitCount_0f7a4 4 rfl) kc_J6_265 ?_
  refine x_iand (tk K_J6_bitCount_0f7a4 5 rfl) ?_
  refine x_isub (tk K_J6_bitCount_0f7a4 6 rfl) ?_
  have h := h _ rfl
  refine x_istore_n (L' := [some (vI _)]) (tk K_J6_bitCount_0f7a4 7 rfl) rfl rfl (Nat.le_of_ble_eq_true rfl) rfl ?_
  refine x_iload_n (tk K_J6_bitCount_0f7a4 8 rfl) rfl rfl ?_
  refine x_ldcw (tk K_J6_bitCount_0f7a4 9 rfl) kc_J6_266 ?_
  refine x_iand (tk K_J6_bitCount_0f7a4 10 rfl) ?_
  refine x_iload_n (tk K_J6_bitCount_0f7a4 11 rfl) rfl rfl ?_
  refine x_iconst (tk K_J6_bitCount_0f7a4 12 rfl) ic_2 ?_
  refine x_iushr (tk K_J6_bitCount_0f7a4 13 rfl) ?_
  refine x_ldcw (tk K_J6_bitCount_0f7a4 14 rfl) kc_J6_266 ?_
  refine x_iand (tk K_J6_bitCount_0f7a4 15 rfl) ?_
  refine x_iadd (tk K_J6_bitCount_0f7a4 16 rfl) ?_
  have h := h _ rfl
  refine x_istore_n (L' := [some (vI _)]) (tk K_J6_bitCount_0f7a4 17 rfl) rfl rfl (Nat.le_of_ble_eq_true rfl) rfl ?_
  refine x_iload_n (tk K_J6_bitCount_0f7a4 18 rfl) rfl rfl ?_
  refine x_iload_n (tk K_J6_bitCount_0f7a4 19 rfl) rfl rfl ?_
  refine x_iconst (tk K_J6_bitCount_0f7a4 20 rfl) ic_4 ?_
  refine x_iushr (tk K_J6_bitCount_0f7a4 21 rfl) ?_
  refine x_iadd (tk K_J6_bitCount_0f7a4 22 rfl) ?_
  refine x_ldcw (tk K_J6_bitCount_0f7a4 23 rfl) kc_J6_267 ?_
  refine x_iand (tk K_J6_bitCount_0f7a4 24 rfl) ?_
  have h := h _ rfl
  refine x_istore_n (L' := [some (vI _)]) (tk K_J6_bitCount_0f7a4 25 rfl) rfl rfl (Nat.le_of_ble_eq_true rfl) rfl ?_
  refine x_iload_n (tk K_J6_bitCount_0f7a4 26 rfl) rfl rfl ?_
  refine x_iload_n (tk K_J6_bitCount_0f7a4 27 rfl) rfl rfl ?_
  refine x_bipush (tk K_J6_bitCount_0f7a4 28 rfl) bp_8 ?_
  refine x_iushr (tk K_J6_bitCount_0f7a4 29 rfl) ?_
  refine x_iadd (tk K_J6_bitCount_0f7a4 30 rfl) ?_
  have h := h _ rfl
  refine x_istore_n (L' := [some (vI _)]) (tk K_J6_bitCount_0f7a4 31 rfl) rfl rfl (Nat.le_of_ble_eq_true rfl) rfl ?_
  refine x_iload_n (tk K_J6_bitCount_0f7a4 32 rfl) rfl rfl ?_
  refine x_iload_n (tk K_J6_bitCount_0f7a4 33 rfl) rfl rfl ?_
  refine x_bipush (tk K_J6_bitCount_0f7a4 34 rfl) bp_16 ?_
  refine x_iushr (tk K_J6_bitCount_0f7a4 35 rfl) ?_
  refine x_iadd (tk K_J6_bitCount_0f7a4 36 rfl) ?_
  have h := h _ rfl
  refine x_istore_n (L' := [some (vI _)]) (tk K_J6_bitCount_0f7a4 37 rfl) rfl rfl (Nat.le_of_ble_eq_true rfl) rfl ?_
  refine x_iload_n (tk K_J6_bitCount_0f7a4 38 rfl) rfl rfl ?_
  refine x_bipush (tk K_J6_bitCount_0f7a4 39 rfl) bp_63 ?_
  refine x_iand (tk K_J6_bitCount_0f7a4 40 rfl) ?_
  exact x_ireturn (tk K_J6_bitCount_0f7a4 41 rfl) rfl rfl h

theorem e_J6_bitCount_0f7a4 {X : Cx} {d kc ns : Nat} {M : Mem} {Q : Option AV → Mem → Prop} {a0 : Int32} (h : WA X d kc ns m_J6_bitCount_0f7a4 0 [some (vI a0)] [] M Q) : Cl X d kc ns m_J6_bitCount_0f7a4 [vI a0] M Q := Cl.intro (k := 0) (by decide) rfl rfl h

-- java/util/Arrays.rangeCheck(III)V
theorem b_J7_rangeCheck_23922_0 {X : Cx} {d kc ns : Nat} {M : Mem} {Q : Option AV → Mem → Prop} {l0 : Int32} {l1 : Int32} {l2 : Int32}
    (h : ((l1 ≤ l2 → ((nI 0 ≤ l1 → ((l2 ≤ l0 → Q none M) ∧ (¬ l2 ≤ l0 → False))) ∧ (¬ nI 0 ≤ l1 → False))) ∧ (¬ l1 ≤ l2 → False))) :
    WA X d kc ns m_J7_rangeCheck_23922 0 [some (vI l0), some (vI l1), some (vI l2)] [] M Q := by
  refine x_iload_n (tk K_J7_rangeCheck_23922 0 rfl) rfl rfl ?_
  refine x_iload_n (tk K_J7_rangeCheck_23922 1 rfl) rfl rfl ?_
  refine x_icmp_le (t := 46) (tk K_J7_rangeCheck_23922 2 rfl) rfl (fun hc => ?_) (fun hc => ?_)
  · have h := h.1 hc
    refine x_iload_n (tk K_J7_rangeCheck_23922 21 rfl) rfl rfl ?_
    refine x_if_ge (t := 59) (tk K_J7_rangeCheck_23922 22 rfl) rfl (fun hc => ?_) (fun hc => ?_)
    · have h := h.1 hc
      refine x_iload_n (tk K_J7_rangeCheck_23922 28 rfl) rfl rfl ?_
      refine x_iload_n (tk K_J7_rangeCheck_23922 29 rfl) rfl rfl ?_
      refine x_icmp_le (t := 73) (tk K_J7_rangeCheck_23922 30 rfl) rfl (fun hc => ?_) (fun hc => ?_)
      · have h := h.1 hc
        exact x_return (tk K_J7_rangeCheck_23922 36 rfl) rfl h
      · have h := h.2 hc
        exact h.elim
    · have h := h.2 hc
      exact h.elim
  · have h := h.2 hc
    exact h.elim

theorem e_J7_rangeCheck_23922 {X : Cx} {d kc ns : Nat} {M : Mem} {Q : Option AV → Mem → Prop} {a0 : Int32} {a1 : Int32} {a2 : Int32} (h : WA X d kc ns m_J7_rangeCheck_23922 0 [some (vI a0), some (vI a1), some (vI a2)] [] M Q) : Cl X d kc ns m_J7_rangeCheck_23922 [vI a0, vI a1, vI a2] M Q := Cl.intro (k := 0) (by decide) rfl rfl h

-- java/util/Arrays.fill([II)V
theorem b_J7_fill_53178_0 {X : Cx} {d kc ns : Nat} {M : Mem} {Q : Option AV → Mem → Prop} {l0 : Nat} {l1 : Int32}
    (h : ∃ n1 : Nat, isK M l0 14 n1 ∧ ∀ x1 : Int32, x1 = (nI n1) → WA X d kc ns m_J7_fill_53178 5 [some (vR l0), some (vI l1), some (vI (nI 0)), some (vI x1)] [] M Q) :
    WA X d kc ns m_J7_fill_53178 0 [some (vR l0), some (vI l1), none, none] [] M Q := by
  refine x_iconst (tk K_J7_fill_53178 0 rfl) ic_0 ?_
  refine x_istore_n (L' := [some (vR _), some (vI _), some (vI _), none]) (tk K_J7_fill_53178 1 rfl) rfl rfl (Nat.le_of_ble_eq_true rfl) rfl ?_
  refine x_aload_n (tk K_J7_fill_53178 2 rfl) rfl rfl ?_
  obtain ⟨n1, hA_n1, h⟩ := h
  refine x_alen (tk K_J7_fill_53178 3 rfl) hA_n1 rfl ?_
  have h := h _ rfl
  refine x_istore_n (L' := [some (vR _), some (vI _), some (vI _), some (vI _)]) (tk K_J7_fill_53178 4 rfl) rfl rfl (Nat.le_of_ble_eq_true rfl) rfl ?_
  exact h

theorem b_J7_fill_53178_5 {X : Cx} {d kc ns : Nat} {M : Mem} {Q : Option AV → Mem → Prop} {l0 : Nat} {l1 : Int32} {l2 : Int32} {l3 : Int32}
    (h : ((l3 ≤ l2 → Q none M) ∧ (¬ l3 ≤ l2 → ∃ n1 : Nat, isK M l0 14 n1 ∧ vp_in l2 n1 ∧ ∀ M1 : Mem, M1 = sI M l0 (ix l2) l1 → WA X d kc ns m_J7_fill_53178 5 [some (vR l0), some (vI l1), some (vI (l2 + (nI 1))), some (vI l3)] [] M1 Q))) :
    WA X d kc ns m_J7_fill_53178 5 [some (vR l0), some (vI l1), some (vI l2), some (vI l3)] [] M Q := by
  refine x_iload_n (tk K_J7_fill_53178 5 rfl) rfl rfl ?_
  refine x_iload_n (tk K_J7_fill_53178 6 rfl) rfl rfl ?_
  refine x_icmp_ge (t := 20) (tk K_J7_fill_53178 7 rfl) rfl (fun hc => ?_) (fun hc => ?_)
  · have h := h.1 hc
    exact x_return (tk K_J7_fill_53178 14 rfl) rfl h
  · have h := h.2 hc
    refine x_aload_n (tk K_J7_fill_53178 8 rfl) rfl rfl ?_
    refine x_iload_n (tk K_J7_fill_53178 9 rfl) rfl rfl ?_
    refine x_iload_n (tk K_J7_fill_53178 10 rfl) rfl rfl ?_
    obtain ⟨n1, hA_n1, h⟩ := h
    have hi := h.1
    have h := h.2
    have h := h _ rfl
    refine x_iast (tk K_J7_fill_53178 11 rfl) hA_n1 hi ?_
    refine x_iincW (L' := [some (vR _), some (vI _), some (vI _), some (vI _)]) (tk K_J7_fill_53178 12 rfl) rfl ic_1 rfl (Nat.le_of_ble_eq_true rfl) rfl ?_
    refine x_goto (t := 5) (tk K_J7_fill_53178 13 rfl) rfl ?_
    exact h

theorem e_J7_fill_53178 {X : Cx} {d kc ns : Nat} {M : Mem} {Q : Option AV → Mem → Prop} {a0 : Nat} {a1 : Int32} (h : WA X d kc ns m_J7_fill_53178 0 [some (vR a0), some (vI a1), none, none] [] M Q) : Cl X d kc ns m_J7_fill_53178 [vR a0, vI a1] M Q := Cl.intro (k := 2) (by decide) rfl rfl h

-- java/util/Arrays.fill([IIII)V
theorem b_J7_fill_fda19_0 {X : Cx} {d kc ns : Nat} {M : Mem} {Q : Option AV → Mem → Prop} {l0 : Nat} {l1 : Int32} {l2 : Int32} {l3 : Int32} (hd : 1 ≤ d)
    (h : ∃ n1 : Nat, isK M l0 14 n1 ∧ Cl X (d - 1) 0 0 m_J7_rangeCheck_23922 [vI (nI n1), vI l1, vI l2] M (fun r M1 => r = none ∧ Ext M M1 ∧ WA X d kc ns m_J7_fill_fda19 10 [some (vR l0), none, some (vI l2), some (vI l3), some (vI l1)] [] M1 Q)) :
    WA X d kc ns m_J7_fill_fda19 0 [some (vR l0), some (vI l1), some (vI l2), some (vI l3), none] [] M Q := by
  refine x_aload_n (tk K_J7_fill_fda19 0 rfl) rfl rfl ?_
  obtain ⟨n1, hA_n1, h⟩ := h
  refine x_alen (tk K_J7_fill_fda19 1 rfl) hA_n1 rfl ?_
  refine x_iload_n (tk K_J7_fill_fda19 2 rfl) rfl rfl ?_
  refine x_iload_n (tk K_J7_fill_fda19 3 rfl) rfl rfl ?_
  refine x_callS0 (As := [vI _, vI _, vI _]) (S := []) (tk K_J7_fill_fda19 4 rfl) mk_J7_13 mo_J7_rangeCheck_23922 rfl rfl (Nat.le_of_ble_eq_true rfl) hd h (fun r M1 hq => ?_)
  obtain ⟨rfl, hE, h⟩ := hq
  have hT0 := hE.1 _ _ _ hA_n1
  refine x_iload_n (tk K_J7_fill_fda19 5 rfl) rfl rfl ?_
  refine x_istore (L' := [some (vR _), some (vI _), some (vI _), some (vI _), some (vI _)]) (tk K_J7_fill_fda19 6 rfl) rfl (Nat.le_of_ble_eq_true rfl) rfl ?_
  refine x_msk [true, false, true, true, true] ?_
  exact h

theorem b_J7_fill_fda19_10 {X : Cx} {d kc ns : Nat} {M : Mem} {Q : Option AV → Mem → Prop} {l0 : Nat} {l2 : Int32} {l3 : Int32} {l4 : Int32}
    (h : ((l2 ≤ l4 → Q none M) ∧ (¬ l2 ≤ l4 → ∃ n1 : Nat, isK M l0 14 n1 ∧ vp_in l4 n1 ∧ ∀ M1 : Mem, M1 = sI M l0 (ix l4) l3 → WA X d kc ns m_J7_fill_fda19 10 [some (vR l0), none, some (vI l2), some (vI l3), some (vI (l4 + (nI 1)))] [] M1 Q))) :
    WA X d kc ns m_J7_fill_fda19 10 [some (vR l0), none, some (vI l2), some (vI l3), some (vI l4)] [] M Q := by
  refine x_iload (tk K_J7_fill_fda19 7 rfl) rfl ?_
  refine x_iload_n (tk K_J7_fill_fda19 8 rfl) rfl rfl ?_
  refine x_icmp_ge (t := 27) (tk K_J7_fill_fda19 9 rfl) rfl (fun hc => ?_) (fun hc => ?_)
  · have h := h.1 hc
    exact x_return (tk K_J7_fill_fda19 16 rfl) rfl h
  · have h := h.2 hc
    refine x_aload_n (tk K_J7_fill_fda19 10 rfl) rfl rfl ?_
    refine x_iload (tk K_J7_fill_fda19 11 rfl) rfl ?_
    refine x_iload_n (tk K_J7_fill_fda19 12 rfl) rfl rfl ?_
    obtain ⟨n1, hA_n1, h⟩ := h
    have hi := h.1
    have h := h.2
    have h := h _ rfl
    refine x_iast (tk K_J7_fill_fda19 13 rfl) hA_n1 hi ?_
    refine x_iincW (L' := [some (vR _), none, some (vI _), some (vI _), some (vI _)]) (tk K_J7_fill_fda19 14 rfl) rfl ic_1 rfl (Nat.le_of_ble_eq_true rfl) rfl ?_
    refine x_goto (t := 10) (tk K_J7_fill_fda19 15 rfl) rfl ?_
    exact h

theorem e_J7_fill_fda19 {X : Cx} {d kc ns : Nat} {M : Mem} {Q : Option AV → Mem → Prop} {a0 : Nat} {a1 : Int32} {a2 : Int32} {a3 : Int32} (h : WA X d kc ns m_J7_fill_fda19 0 [some (vR a0), some (vI a1), some (vI a2), some (vI a3), none] [] M Q) : Cl X d kc ns m_J7_fill_fda19 [vR a0, vI a1, vI a2, vI a3] M Q := Cl.intro (k := 1) (by decide) rfl rfl h
