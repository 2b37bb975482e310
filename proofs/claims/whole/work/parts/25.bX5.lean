-- TwoPencils$Mind.<init>(LTwoPencils$Joiner;LTwoPencils$Land;LTwoPencils$Protocol;)V
theorem b_X5_init_0 {X : Cx} {d kc ns : Nat} {M : Mem} {Q : Option AV → Mem → Prop} {l0 : Nat} {l1 : Nat} {l2 : Nat} {l3 : Nat} (hS : isK M l0 5 10) (hd : 1 ≤ d)
    (h : vp_in (nI 4) 65536 ∧ 1 ≤ kc ∧ ix (nI 4) ≤ ns ∧ ∀ M1 : Mem, M1 = nw M 16 (ix (nI 4)) → ∀ M2 : Mem, M2 = sR M1 l0 1 (nx M) → vp_in (nI 2048) 65536 ∧ 1 ≤ (kc - 1) ∧ ix (nI 2048) ≤ (ns - ix (nI 4)) ∧ ∀ M3 : Mem, M3 = nw M2 14 (ix (nI 2048)) → ∀ M4 : Mem, M4 = sR M3 l0 2 (nx M2) → vp_in (nI 2048) 65536 ∧ 1 ≤ ((kc - 1) - 1) ∧ ix (nI 2048) ≤ ((ns - ix (nI 4)) - ix (nI 2048)) ∧ ∀ M5 : Mem, M5 = nw M4 14 (ix (nI 2048)) → ∀ M6 : Mem, M6 = sR M5 l0 3 (nx M4) → vp_in (nI 8) 65536 ∧ 1 ≤ (((kc - 1) - 1) - 1) ∧ ix (nI 8) ≤ (((ns - ix (nI 4)) - ix (nI 2048)) - ix (nI 2048)) ∧ ∀ M7 : Mem, M7 = nw M6 14 (ix (nI 8)) → ∀ M8 : Mem, M8 = sR M7 l0 4 (nx M6) → ∀ M9 : Mem, M9 = sI M8 l0 7 (nI 0) → ∀ M10 : Mem, M10 = sI M9 l0 8 (-1) → ∀ M11 : Mem, M11 = sI M10 l0 9 (-1) → ∀ M12 : Mem, M12 = sR M11 l0 0 l1 → ∀ M13 : Mem, M13 = sR M12 l0 5 l2 → ∀ M14 : Mem, M14 = sR M13 l0 6 l3 → WA X d ((((kc - 1) - 1) - 1) - 1) ((((ns - ix (nI 4)) - ix (nI 2048)) - ix (nI 2048)) - ix (nI 8)) m_X5_init 71 [some (vR l0), none, none, none, some (vI (nI 0))] [] M14 Q) :
    WA X d kc ns m_X5_init 0 [some (vR l0), some (vR l1), some (vR l2), some (vR l3), none] [] M Q := by
  refine x_aload_n (tk K_X5_init 0 rfl) rfl rfl ?_
  refine x_objInit (tk K_X5_init 1 rfl) oi_X5_3 oi_in oi_code hS (by decide) hd ?_
  refine x_aload_n (tk K_X5_init 2 rfl) rfl rfl ?_
  refine x_iconst (tk K_X5_init 3 rfl) ic_4 ?_
  have hx := h.1
  have hk := h.2.1
  have hn := h.2.2.1
  have h := h.2.2.2
  refine x_anew (k := 16) (ci := 0) (tk K_X5_init 4 rfl) (by decide) cl_X5_9 ao_16 hx hk hn ?_
  refine WA_nm (fun M1 e_M1 => ?_)
  have h := h M1 e_M1
  have hT1 : isK M1 (nx M) 16 (ix (nI 4)) := by rw [e_M1]; exact isK_nw
  have hT2 : isK M1 l0 5 10 := by rw [e_M1]; exact (isK_nw_old hS)
  refine x_putR (tk K_X5_init 5 rfl) f_X5_11 rfl rfl (Or.inr ⟨rfl, rfl, rfl, l_X5_11⟩) hT2 ?_
  refine WA_nm (fun M2 e_M2 => ?_)
  have h := h M2 e_M2
  have hT3 : isK M2 l0 5 10 := by rw [e_M2]; exact hT2
  refine x_aload_n (tk K_X5_init 6 rfl) rfl rfl ?_
  refine x_sipush (tk K_X5_init 7 rfl) sp_2048 ?_
  have hx := h.1
  have hk := h.2.1
  have hn := h.2.2.1
  have h := h.2.2.2
  refine x_newa (k := 14) (tk K_X5_init 8 rfl) rfl ac_14 hx hk hn ?_
  refine WA_nm (fun M3 e_M3 => ?_)
  have h := h M3 e_M3
  have hT5 : isK M3 (nx M2) 14 (ix (nI 2048)) := by rw [e_M3]; exact isK_nw
  have hT6 : isK M3 l0 5 10 := by rw [e_M3]; exact (isK_nw_old hT3)
  refine x_putR (tk K_X5_init 9 rfl) f_X5_17 rfl rfl (Or.inr ⟨rfl, rfl, rfl, l_X5_17⟩) hT6 ?_
  refine WA_nm (fun M4 e_M4 => ?_)
  have h := h M4 e_M4
  have hT7 : isK M4 l0 5 10 := by rw [e_M4]; exact hT6
  refine x_aload_n (tk K_X5_init 10 rfl) rfl rfl ?_
  refine x_sipush (tk K_X5_init 11 rfl) sp_2048 ?_
  have hx := h.1
  have hk := h.2.1
  have hn := h.2.2.1
  have h := h.2.2.2
  refine x_newa (k := 14) (tk K_X5_init 12 rfl) rfl ac_14 hx hk hn ?_
  refine WA_nm (fun M5 e_M5 => ?_)
  have h := h M5 e_M5
  have hT9 : isK M5 (nx M4) 14 (ix (nI 2048)) := by rw [e_M5]; exact isK_nw
  have hT10 : isK M5 l0 5 10 := by rw [e_M5]; exact (isK_nw_old hT7)
  refine x_putR (tk K_X5_init 13 rfl) f_X5_21 rfl rfl (Or.inr ⟨rfl, rfl, rfl, l_X5_21⟩) hT10 ?_
  refine WA_nm (fun M6 e_M6 => ?_)
  have h := h M6 e_M6
  have hT11 : isK M6 l0 5 10 := by rw [e_M6]; exact hT10
  refine x_aload_n (tk K_X5_init 14 rfl) rfl rfl ?_
  refine x_bipush (tk K_X5_init 15 rfl) bp_8 ?_
  have hx := h.1
  have hk := h.2.1
  have hn := h.2.2.1
  have h := h.2.2.2
  refine x_newa (k := 14) (tk K_X5_init 16 rfl) rfl ac_14 hx hk hn ?_
  refine WA_nm (fun M7 e_M7 => ?_)
  have h := h M7 e_M7
  have hT13 : isK M7 (nx M6) 14 (ix (nI 8)) := by rw [e_M7]; exact isK_nw
  have hT14 : isK M7 l0 5 10 := by rw [e_M7]; exact (isK_nw_old hT11)
  refine x_putR (tk K_X5_init 17 rfl) f_X5_24 rfl rfl (Or.inr ⟨rfl, rfl, rfl, l_X5_24⟩) hT14 ?_
  refine WA_nm (fun M8 e_M8 => ?_)
  have h := h M8 e_M8
  have hT15 : isK M8 l0 5 10 := by rw [e_M8]; exact hT14
  refine x_aload_n (tk K_X5_init 18 rfl) rfl rfl ?_
  refine x_iconst (tk K_X5_init 19 rfl) ic_0 ?_
  refine x_putI (tk K_X5_init 20 rfl) f_X5_27 rfl (Or.inl rfl) hT15 ?_
  refine WA_nm (fun M9 e_M9 => ?_)
  have h := h M9 e_M9
  have hT16 : isK M9 l0 5 10 := by rw [e_M9]; exact hT15
  refine x_aload_n (tk K_X5_init 21 rfl) rfl rfl ?_
  refine x_iconst (tk K_X5_init 22 rfl) ic_m1 ?_
  refine x_putI (tk K_X5_init 23 rfl) f_X5_31 rfl (Or.inl rfl) hT16 ?_
  refine WA_nm (fun M10 e_M10 => ?_)
  have h := h M10 e_M10
  have hT17 : isK M10 l0 5 10 := by rw [e_M10]; exact hT16
  refine x_aload_n (tk K_X5_init 24 rfl) rfl rfl ?_
  refine x_iconst (tk K_X5_init 25 rfl) ic_m1 ?_
  refine x_putI (tk K_X5_init 26 rfl) f_X5_34 rfl (Or.inl rfl) hT17 ?_
  refine WA_nm (fun M11 e_M11 => ?_)
  have h := h M11 e_M11
  have hT18 : isK M11 l0 5 10 := by rw [e_M11]; exact hT17
  refine x_aload_n (tk K_X5_init 27 rfl) rfl rfl ?_
  refine x_aload_n (tk K_X5_init 28 rfl) rfl rfl ?_
  refine x_putR (tk K_X5_init 29 rfl) f_X5_37 rfl rfl (Or.inr ⟨rfl, rfl, rfl, l_X5_37⟩) hT18 ?_
  refine WA_nm (fun M12 e_M12 => ?_)
  have h := h M12 e_M12
  have hT19 : isK M12 l0 5 10 := by rw [e_M12]; exact hT18
  refine x_aload_n (tk K_X5_init 30 rfl) rfl rfl ?_
  refine x_aload_n (tk K_X5_init 31 rfl) rfl rfl ?_
  refine x_putR (tk K_X5_init 32 rfl) f_X5_41 rfl rfl (Or.inl rfl) hT19 ?_
  refine WA_nm (fun M13 e_M13 => ?_)
  have h := h M13 e_M13
  have hT20 : isK M13 l0 5 10 := by rw [e_M13]; exact hT19
  refine x_aload_n (tk K_X5_init 33 rfl) rfl rfl ?_
  refine x_aload_n (tk K_X5_init 34 rfl) rfl rfl ?_
  refine x_putR (tk K_X5_init 35 rfl) f_X5_45 rfl rfl (Or.inl rfl) hT20 ?_
  refine WA_nm (fun M14 e_M14 => ?_)
  have h := h M14 e_M14
  have hT21 : isK M14 l0 5 10 := by rw [e_M14]; exact hT20
  refine x_iconst (tk K_X5_init 36 rfl) ic_0 ?_
  refine x_istore (L' := [some (vR _), some (vR _), some (vR _), some (vR _), some (vI _)]) (tk K_X5_init 37 rfl) rfl (Nat.le_of_ble_eq_true rfl) rfl ?_
  refine x_msk [true, false, false, false, true] ?_
  exact h

theorem b_X5_init_71 {X : Cx} {d kc ns : Nat} {M : Mem} {Q : Option AV → Mem → Prop} {l0 : Nat} {l4 : Int32} (hS : isK M l0 5 10) (hd : 1 ≤ d)
    (h : (((nI 4) ≤ l4 → Q none M) ∧ (¬ (nI 4) ≤ l4 → 1 ≤ kc ∧ 9 ≤ ns ∧ ∀ M1 : Mem, M1 = nw M 0 9 → ∃ kb1 nb1 : Nat, kb1 ≤ (kc - 1) ∧ nb1 ≤ (ns - 9) ∧ Cl X (d - 1) kb1 nb1 m_X0_init [vR (nx M)] M1 (fun r M2 => r = none ∧ ∃ n1 : Nat, isK M2 (mR M l0 1) 16 n1 ∧ isK M2 (nx M) 0 9 ∧ vp_in l4 n1 ∧ ∀ M3 : Mem, M3 = sR M2 (mR M l0 1) (ix l4) (nx M) → WA X d ((kc - 1) - kb1) ((ns - 9) - nb1) m_X5_init 71 [some (vR l0), none, none, none, some (vI (l4 + (nI 1)))] [] M3 Q)))) :
    WA X d kc ns m_X5_init 71 [some (vR l0), none, none, none, some (vI l4)] [] M Q := by
  refine x_iload (tk K_X5_init 38 rfl) rfl ?_
  refine x_iconst (tk K_X5_init 39 rfl) ic_4 ?_
  refine x_icmp_ge (t := 97) (tk K_X5_init 40 rfl) rfl (fun hc => ?_) (fun hc => ?_)
  · have h := h.1 hc
    exact x_return (tk K_X5_init 50 rfl) rfl h
  · have h := h.2 hc
    refine x_aload_n (tk K_X5_init 41 rfl) rfl rfl ?_
    refine x_getR (tk K_X5_init 42 rfl) f_X5_11 rfl hS ?_
    refine x_iload (tk K_X5_init 43 rfl) rfl ?_
    have hk := h.1
    have hn := h.2.1
    have h := h.2.2
    refine x_new (ci := 0) (N := 9) (tk K_X5_init 44 rfl) (by decide) rfl cl_X5_9 in_0 ii_0 hk hn ?_
    refine WA_nm (fun M1 e_M1 => ?_)
    have h := h M1 e_M1
    have hT1 : isK M1 l0 5 10 := by rw [e_M1]; exact (isK_nw_old hS)
    have hT2 : isK M1 (nx M) 0 9 := by rw [e_M1]; exact isK_nw
    refine x_dup (tk K_X5_init 45 rfl) rfl ?_
    obtain ⟨kb1, nb1, hk1, hn1, h⟩ := h
    refine x_callI (As := []) (S := [vR _, vI _, vR _]) (tk K_X5_init 46 rfl) mk_X5_49 mo_X0_init hT2 rfl rfl (Nat.le_of_ble_eq_true rfl) hd hk1 hn1 h (fun r M2 hq => ?_)
    obtain ⟨rfl, h⟩ := hq
    obtain ⟨n1, hA_n1, h⟩ := h
    have hO_1 := h.1
    have h := h.2
    have hi := h.1
    have h := h.2
    refine x_aast16 (tk K_X5_init 47 rfl) hA_n1 hO_1 hi ?_
    refine WA_nm (fun M3 e_M3 => ?_)
    have h := h M3 e_M3
    have hT3 : isK M3 (nx M) 0 9 := by rw [e_M3]; exact hO_1
    refine x_iincW (L' := [some (vR _), none, none, none, some (vI _)]) (tk K_X5_init 48 rfl) rfl ic_1 rfl (Nat.le_of_ble_eq_true rfl) rfl ?_
    refine x_goto (t := 71) (tk K_X5_init 49 rfl) rfl ?_
    exact h

theorem e_X5_init {X : Cx} {d kc ns : Nat} {M : Mem} {Q : Option AV → Mem → Prop} {a0 : Nat} {a1 : Nat} {a2 : Nat} {a3 : Nat} (h : WA X d kc ns m_X5_init 0 [some (vR a0), some (vR a1), some (vR a2), some (vR a3), none] [] M Q) : Cl X d kc ns m_X5_init [vR a0, vR a1, vR a2, vR a3] M Q := Cl.intro (k := 1) (by decide) rfl rfl h

-- TwoPencils$Mind.prefers(III)Z
theorem b_X5_prefers_0 {X : Cx} {d kc ns : Nat} {M : Mem} {Q : Option AV → Mem → Prop} {l0 : Int32} {l1 : Int32} {l2 : Int32}
    (h : ((¬ l0 = nI 0 → ((l2 ≤ l1 → Q (some (vI (nI 0))) M) ∧ (¬ l2 ≤ l1 → Q (some (vI (nI 1))) M))) ∧ (l0 = nI 0 → ((l1 ≤ l2 → Q (some (vI (nI 0))) M) ∧ (¬ l1 ≤ l2 → Q (some (vI (nI 1))) M))))) :
    WA X d kc ns m_X5_prefers 0 [some (vI l0), some (vI l1), some (vI l2)] [] M Q := by
  refine x_iload_n (tk K_X5_prefers 0 rfl) rfl rfl ?_
  refine x_if_ne (t := 17) (tk K_X5_prefers 1 rfl) rfl (fun hc => ?_) (fun hc => ?_)
  · have h := h.1 hc
    refine x_iload_n (tk K_X5_prefers 9 rfl) rfl rfl ?_
    refine x_iload_n (tk K_X5_prefers 10 rfl) rfl rfl ?_
    refine x_icmp_ge (t := 26) (tk K_X5_prefers 11 rfl) rfl (fun hc => ?_) (fun hc => ?_)
    · have h := h.1 hc
      refine x_iconst (tk K_X5_prefers 14 rfl) ic_0 ?_
      exact x_ireturn (tk K_X5_prefers 15 rfl) rfl (fitZ (Or.inl rfl)).1 h
    · have h := h.2 hc
      refine x_iconst (tk K_X5_prefers 12 rfl) ic_1 ?_
      refine x_goto (t := 27) (tk K_X5_prefers 13 rfl) rfl ?_
      exact x_ireturn (tk K_X5_prefers 15 rfl) rfl (fitZ (Or.inr rfl)).1 h
  · have h := h.2 hc
    refine x_iload_n (tk K_X5_prefers 2 rfl) rfl rfl ?_
    refine x_iload_n (tk K_X5_prefers 3 rfl) rfl rfl ?_
    refine x_icmp_le (t := 13) (tk K_X5_prefers 4 rfl) rfl (fun hc => ?_) (fun hc => ?_)
    · have h := h.1 hc
      refine x_iconst (tk K_X5_prefers 7 rfl) ic_0 ?_
      refine x_goto (t := 27) (tk K_X5_prefers 8 rfl) rfl ?_
      exact x_ireturn (tk K_X5_prefers 15 rfl) rfl (fitZ (Or.inl rfl)).1 h
    · have h := h.2 hc
      refine x_iconst (tk K_X5_prefers 5 rfl) ic_1 ?_
      refine x_goto (t := 27) (tk K_X5_prefers 6 rfl) rfl ?_
      exact x_ireturn (tk K_X5_prefers 15 rfl) rfl (fitZ (Or.inr rfl)).1 h

theorem e_X5_prefers {X : Cx} {d kc ns : Nat} {M : Mem} {Q : Option AV → Mem → Prop} {a0 : Int32} {a1 : Int32} {a2 : Int32} (h : WA X d kc ns m_X5_prefers 0 [some (vI a0), some (vI a1), some (vI a2)] [] M Q) : Cl X d kc ns m_X5_prefers [vI a0, vI a1, vI a2] M Q := Cl.intro (k := 0) (by decide) rfl rfl h

-- TwoPencils$Mind.worstFor(I)I
theorem b_X5_worstFor_0 {X : Cx} {d kc ns : Nat} {M : Mem} {Q : Option AV → Mem → Prop} {l0 : Int32}
    (h : ((¬ l0 = nI 0 → Q (some (vI (nI 100))) M) ∧ (l0 = nI 0 → Q (some (vI (-100))) M))) :
    WA X d kc ns m_X5_worstFor 0 [some (vI l0)] [] M Q := by
  refine x_iload_n (tk K_X5_worstFor 0 rfl) rfl rfl ?_
  refine x_if_ne (t := 9) (tk K_X5_worstFor 1 rfl) rfl (fun hc => ?_) (fun hc => ?_)
  · have h := h.1 hc
    refine x_bipush (tk K_X5_worstFor 4 rfl) bp_100 ?_
    exact x_ireturn (tk K_X5_worstFor 5 rfl) rfl rfl h
  · have h := h.2 hc
    refine x_bipush (tk K_X5_worstFor 2 rfl) bp_m100 ?_
    refine x_goto (t := 11) (tk K_X5_worstFor 3 rfl) rfl ?_
    exact x_ireturn (tk K_X5_worstFor 5 rfl) rfl rfl h

theorem e_X5_worstFor {X : Cx} {d kc ns : Nat} {M : Mem} {Q : Option AV → Mem → Prop} {a0 : Int32} (h : WA X d kc ns m_X5_worstFor 0 [some (vI a0)] [] M Q) : Cl X d kc ns m_X5_worstFor [vI a0] M Q := Cl.intro (k := 0) (by decide) rfl rfl h

-- TwoPencils$Mind.turnTo(LTwoPencils$Land;LTwoPencils$Protocol;II)V
theorem b_X5_turnTo_0 {X : Cx} {d kc ns : Nat} {M : Mem} {Q : Option AV → Mem → Prop} {l0 : Nat} {l1 : Nat} {l2 : Nat} {l3 : Int32} {l4 : Int32} (hS : MiS M l0)
    (h : ((¬ l1 = (mR M l0 5) → WA X d kc ns m_X5_turnTo 33 [some (vR l0), some (vR l1), some (vR l2), some (vI l3), some (vI l4)] [] M Q) ∧ (l1 = (mR M l0 5) → ((¬ l2 = (mR M l0 6) → WA X d kc ns m_X5_turnTo 33 [some (vR l0), some (vR l1), some (vR l2), some (vI l3), some (vI l4)] [] M Q) ∧ (l2 = (mR M l0 6) → ((¬ l3 = (mI M l0 7) → WA X d kc ns m_X5_turnTo 33 [some (vR l0), some (vR l1), some (vR l2), some (vI l3), some (vI l4)] [] M Q) ∧ (l3 = (mI M l0 7) → ((l4 = (mI M l0 8) → Q none M) ∧ (¬ l4 = (mI M l0 8) → WA X d kc ns m_X5_turnTo 33 [some (vR l0), some (vR l1), some (vR l2), some (vI l3), some (vI l4)] [] M Q))))))))) :
    WA X d kc ns m_X5_turnTo 0 [some (vR l0), some (vR l1), some (vR l2), some (vI l3), some (vI l4)] [] M Q := by
  refine x_aload_n (tk K_X5_turnTo 0 rfl) rfl rfl ?_
  refine x_aload_n (tk K_X5_turnTo 1 rfl) rfl rfl ?_
  refine x_getR (tk K_X5_turnTo 2 rfl) f_X5_41 rfl (MiS.o hS) ?_
  refine x_acmp_ne (t := 33) (tk K_X5_turnTo 3 rfl) rfl (fun hc => ?_) (fun hc => ?_)
  · have h := h.1 hc
    exact h
  · have h := h.2 hc
    refine x_aload_n (tk K_X5_turnTo 4 rfl) rfl rfl ?_
    refine x_aload_n (tk K_X5_turnTo 5 rfl) rfl rfl ?_
    refine x_getR (tk K_X5_turnTo 6 rfl) f_X5_45 rfl (MiS.o hS) ?_
    refine x_acmp_ne (t := 33) (tk K_X5_turnTo 7 rfl) rfl (fun hc => ?_) (fun hc => ?_)
    · have h := h.1 hc
      exact h
    · have h := h.2 hc
      refine x_iload_n (tk K_X5_turnTo 8 rfl) rfl rfl ?_
      refine x_aload_n (tk K_X5_turnTo 9 rfl) rfl rfl ?_
      refine x_getI (tk K_X5_turnTo 10 rfl) f_X5_27 rfl (MiS.o hS) ?_
      refine x_icmp_ne (t := 33) (tk K_X5_turnTo 11 rfl) rfl (fun hc => ?_) (fun hc => ?_)
      · have h := h.1 hc
        exact h
      · have h := h.2 hc
        refine x_iload (tk K_X5_turnTo 12 rfl) rfl ?_
        refine x_aload_n (tk K_X5_turnTo 13 rfl) rfl rfl ?_
        refine x_getI (tk K_X5_turnTo 14 rfl) f_X5_31 rfl (MiS.o hS) ?_
        refine x_icmp_eq (t := 64) (tk K_X5_turnTo 15 rfl) rfl (fun hc => ?_) (fun hc => ?_)
        · have h := h.1 hc
          exact x_return (tk K_X5_turnTo 32 rfl) rfl h
        · have h := h.2 hc
          exact h

theorem b_X5_turnTo_33 {X : Cx} {d kc ns : Nat} {M : Mem} {Q : Option AV → Mem → Prop} {l0 : Nat} {l1 : Nat} {l2 : Nat} {l3 : Int32} {l4 : Int32} (hS : MiS M l0) (hd : 1 ≤ d)
    (h : ∀ M1 : Mem, M1 = sR M l0 5 l1 → ∀ M2 : Mem, M2 = sR M1 l0 6 l2 → ∀ M3 : Mem, M3 = sI M2 l0 7 l3 → ∀ M4 : Mem, M4 = sI M3 l0 8 l4 → Cl X (d - 1) 0 0 m_J7_fill_53178 [vR (l0 + 2), vI (-1000)] M4 (fun r M5 => r = none ∧ Ext M4 M5 ∧ Q none M5)) :
    WA X d kc ns m_X5_turnTo 33 [some (vR l0), some (vR l1), some (vR l2), some (vI l3), some (vI l4)] [] M Q := by
  refine x_aload_n (tk K_X5_turnTo 16 rfl) rfl rfl ?_
  refine x_aload_n (tk K_X5_turnTo 17 rfl) rfl rfl ?_
  have h := h _ rfl
  refine x_putR (tk K_X5_turnTo 18 rfl) f_X5_41 rfl rfl (Or.inl rfl) (MiS.o hS) ?_
  refine x_aload_n (tk K_X5_turnTo 19 rfl) rfl rfl ?_
  refine x_aload_n (tk K_X5_turnTo 20 rfl) rfl rfl ?_
  have h := h _ rfl
  refine x_putR (tk K_X5_turnTo 21 rfl) f_X5_45 rfl rfl (Or.inl rfl) (MiS.o (MiS.ext hS (ExtR (i := 5) (MiS.o hS) rfl))) ?_
  refine x_aload_n (tk K_X5_turnTo 22 rfl) rfl rfl ?_
  refine x_iload_n (tk K_X5_turnTo 23 rfl) rfl rfl ?_
  have h := h _ rfl
  refine x_putI (tk K_X5_turnTo 24 rfl) f_X5_27 rfl (Or.inl rfl) (MiS.o (MiS.ext (MiS.ext hS (ExtR (i := 5) (MiS.o hS) rfl)) (ExtR (i := 6) (MiS.o (MiS.ext hS (ExtR (i := 5) (MiS.o hS) rfl))) rfl))) ?_
  refine x_aload_n (tk K_X5_turnTo 25 rfl) rfl rfl ?_
  refine x_iload (tk K_X5_turnTo 26 rfl) rfl ?_
  have h := h _ rfl
  refine x_putI (tk K_X5_turnTo 27 rfl) f_X5_31 rfl (Or.inl rfl) (MiS.o (MiS.ext (MiS.ext hS (ExtR (i := 5) (MiS.o hS) rfl)) (ExtR (i := 6) (MiS.o (MiS.ext hS (ExtR (i := 5) (MiS.o hS) rfl))) rfl))) ?_
  refine x_aload_n (tk K_X5_turnTo 28 rfl) rfl rfl ?_
  refine x_getRc (tk K_X5_turnTo 29 rfl) f_X5_17 rfl (MiS.o (MiS.ext (MiS.ext hS (ExtR (i := 5) (MiS.o hS) rfl)) (ExtR (i := 6) (MiS.o (MiS.ext hS (ExtR (i := 5) (MiS.o hS) rfl))) rfl))) (MiS.r2 (MiS.ext (MiS.ext hS (ExtR (i := 5) (MiS.o hS) rfl)) (ExtR (i := 6) (MiS.o (MiS.ext hS (ExtR (i := 5) (MiS.o hS) rfl))) rfl))) ?_
  refine x_sipush (tk K_X5_turnTo 30 rfl) sp_m1000 ?_
  refine x_callS0 (As := [vR _, vI _]) (S := []) (tk K_X5_turnTo 31 rfl) mk_X5_50 mo_J7_fill_53178 rfl rfl (Nat.le_of_ble_eq_true rfl) hd h (fun r M5 hq => ?_)
  obtain ⟨rfl, hE, h⟩ := hq
  have hT0 := MiS.ext (MiS.ext (MiS.ext hS (ExtR (i := 5) (MiS.o hS) rfl)) (ExtR (i := 6) (MiS.o (MiS.ext hS (ExtR (i := 5) (MiS.o hS) rfl))) rfl)) hE
  have hT1 := hE.1 _ _ _ (MiS.k2 (MiS.ext (MiS.ext hS (ExtR (i := 5) (MiS.o hS) rfl)) (ExtR (i := 6) (MiS.o (MiS.ext hS (ExtR (i := 5) (MiS.o hS) rfl))) rfl)))
  exact x_return (tk K_X5_turnTo 32 rfl) rfl h

theorem e_X5_turnTo {X : Cx} {d kc ns : Nat} {M : Mem} {Q : Option AV → Mem → Prop} {a0 : Nat} {a1 : Nat} {a2 : Nat} {a3 : Int32} {a4 : Int32} (h : WA X d kc ns m_X5_turnTo 0 [some (vR a0), some (vR a1), some (vR a2), some (vI a3), some (vI a4)] [] M Q) : Cl X d kc ns m_X5_turnTo [vR a0, vR a1, vR a2, vI a3, vI a4] M Q := Cl.intro (k := 0) (by decide) rfl rfl h

-- TwoPencils$Mind.forget()V
theorem b_X5_forget_0 {X : Cx} {d kc ns : Nat} {M : Mem} {Q : Option AV → Mem → Prop} {l0 : Nat} (hS : MiS M l0)
    (h : ∀ M1 : Mem, M1 = sI M l0 8 (-1) → Q none M1) :
    WA X d kc ns m_X5_forget 0 [some (vR l0)] [] M Q := by
  refine x_aload_n (tk K_X5_forget 0 rfl) rfl rfl ?_
  refine x_iconst (tk K_X5_forget 1 rfl) ic_m1 ?_
  have h := h _ rfl
  refine x_putI (tk K_X5_forget 2 rfl) f_X5_31 rfl (Or.inl rfl) (MiS.o hS) ?_
  exact x_return (tk K_X5_forget 3 rfl) rfl h

theorem e_X5_forget {X : Cx} {d kc ns : Nat} {M : Mem} {Q : Option AV → Mem → Prop} {a0 : Nat} (h : WA X d kc ns m_X5_forget 0 [some (vR a0)] [] M Q) : Cl X d kc ns m_X5_forget [vR a0] M Q := Cl.intro (k := 0) (by decide) rfl rfl h

-- TwoPencils$Mind.drawer(I)I
theorem b_X5_drawer_0 {X : Cx} {d kc ns : Nat} {M : Mem} {Q : Option AV → Mem → Prop} {l0 : Nat} {l1 : Int32} (hS : MiS M l0)
    (h : LaS M (mR M l0 5) ∧ ∀ x1 : Int32, x1 = ((mI M (mR M l0 5) 1) - l1) → ((x1 < nI 0 → Q (some (vI (nI 0))) M) ∧ (¬ x1 < nI 0 → (((nI 4) ≤ x1 → Q (some (vI (nI 0))) M) ∧ (¬ (nI 4) ≤ x1 → PrS M (mR M l0 6) ∧ vp_in x1 4 ∧ Q (some (vI ((mI M ((mR M l0 6) + 2) (ix x1)) ^^^ (mI M l0 7)))) M))))) :
    WA X d kc ns m_X5_drawer 0 [some (vR l0), some (vI l1), none] [] M Q := by
  refine x_aload_n (tk K_X5_drawer 0 rfl) rfl rfl ?_
  refine x_getR (tk K_X5_drawer 1 rfl) f_X5_41 rfl (MiS.o hS) ?_
  have hS_2 := h.1
  have h := h.2
  refine x_getI (tk K_X5_drawer 2 rfl) f_X5_56 rfl (LaS.o hS_2) ?_
  refine x_iload_n (tk K_X5_drawer 3 rfl) rfl rfl ?_
  refine x_isub (tk K_X5_drawer 4 rfl) ?_
  have h := h _ rfl
  refine x_istore_n (L' := [some (vR _), some (vI _), some (vI _)]) (tk K_X5_drawer 5 rfl) rfl rfl (Nat.le_of_ble_eq_true rfl) rfl ?_
  refine x_iload_n (tk K_X5_drawer 6 rfl) rfl rfl ?_
  refine x_if_lt (t := 36) (tk K_X5_drawer 7 rfl) rfl (fun hc => ?_) (fun hc => ?_)
  · have h := h.1 hc
    refine x_iconst (tk K_X5_drawer 20 rfl) ic_0 ?_
    exact x_ireturn (tk K_X5_drawer 21 rfl) rfl rfl h
  · have h := h.2 hc
    refine x_iload_n (tk K_X5_drawer 8 rfl) rfl rfl ?_
    refine x_iconst (tk K_X5_drawer 9 rfl) ic_4 ?_
    refine x_icmp_ge (t := 36) (tk K_X5_drawer 10 rfl) rfl (fun hc => ?_) (fun hc => ?_)
    · have h := h.1 hc
      refine x_iconst (tk K_X5_drawer 20 rfl) ic_0 ?_
      exact x_ireturn (tk K_X5_drawer 21 rfl) rfl rfl h
    · have h := h.2 hc
      refine x_aload_n (tk K_X5_drawer 11 rfl) rfl rfl ?_
      refine x_getR (tk K_X5_drawer 12 rfl) f_X5_45 rfl (MiS.o hS) ?_
      have hS_23 := h.1
      have h := h.2
      refine x_getRc (tk K_X5_drawer 13 rfl) f_X5_61 rfl (PrS.o hS_23) (PrS.r1 hS_23) ?_
      refine x_iload_n (tk K_X5_drawer 14 rfl) rfl rfl ?_
      have hi := h.1
      have h := h.2
      refine x_iald (tk K_X5_drawer 15 rfl) (PrS.k1 hS_23) hi ?_
      refine x_aload_n (tk K_X5_drawer 16 rfl) rfl rfl ?_
      refine x_getI (tk K_X5_drawer 17 rfl) f_X5_27 rfl (MiS.o hS) ?_
      refine x_ixor (tk K_X5_drawer 18 rfl) ?_
      refine x_goto (t := 37) (tk K_X5_drawer 19 rfl) rfl ?_
      exact x_ireturn (tk K_X5_drawer 21 rfl) rfl rfl h

theorem e_X5_drawer {X : Cx} {d kc ns : Nat} {M : Mem} {Q : Option AV → Mem → Prop} {a0 : Nat} {a1 : Int32} (h : WA X d kc ns m_X5_drawer 0 [some (vR a0), some (vI a1), none] [] M Q) : Cl X d kc ns m_X5_drawer [vR a0, vI a1] M Q := Cl.intro (k := 1) (by decide) rfl rfl h

-- TwoPencils$Mind.weigh(LTwoPencils$Game;)I
theorem b_X5_weigh_0 {X : Cx} {d kc ns : Nat} {M : Mem} {Q : Option AV → Mem → Prop} {l0 : Nat} {l1 : Nat} (hS : MiS M l0) (hd : 1 ≤ d)
    (h : GaS M l1 ∧ LaS M (mR M l0 5) ∧ Cl X (d - 1) 0 0 m_X3_worthOfAll [vR (mR M l0 5), vR (l1 + 2), vI (mI M l1 7), vI (mI M l0 8)] M (fun r M1 => ∃ x1 : Int32, r = some (vI x1) ∧ Ext M M1 ∧ ∀ x2 : Int32, x2 = (mI M1 l1 9) → ∀ M2 : Mem, M2 = sI M1 l0 9 (-1) → Cl X (d - 1) 0 0 m_X1_isOver [vR l1] M2 (fun r M3 => ∃ x3 : Int32, r = some (vI x3) ∧ Ext M2 M3 ∧ ((¬ x3 = nI 0 → Q (some (vI x1)) M3) ∧ (x3 = nI 0 → ((x2 < (nI 1) → Q (some (vI x1)) M3) ∧ (¬ x2 < (nI 1) → LaS M3 (mR M3 l0 5) ∧ ((x2 ≤ (mI M3 (mR M3 l0 5) 1) → ∀ x4 : Int32, x4 = (mI M3 l1 10) → (((x4.toInt < 1 ∨ 7 < x4.toInt) → WA X d kc ns m_X5_weigh 152 [some (vR l0), some (vR l1), some (vI x1), some (vI x2)] [] M3 Q) ∧ (x4.toInt = 1 → Cl X (d - 1) 0 0 m_X5_drawer [vR l0, vI x2] M3 (fun r M4 => ∃ x5 : Int32, r = some (vI x5) ∧ Ext M3 M4 ∧ Cl X (d - 1) 0 0 m_X5_worstFor [vI x5] M4 (fun r M5 => ∃ x6 : Int32, r = some (vI x6) ∧ Ext M4 M5 ∧ Cl X (d - 1) 0 0 m_X5_keepOne [vR l0, vR (l1 + 3), vI (mI M3 l1 8), vI x2, vI x6] M5 (fun r M6 => ∃ x7 : Int32, r = some (vI x7) ∧ Ext M5 M6 ∧ Q (some (vI (x1 + x7))) M6)))) ∧ (x4.toInt = 2 → WA X d kc ns m_X5_weigh 152 [some (vR l0), some (vR l1), some (vI x1), some (vI x2)] [] M3 Q) ∧ (x4.toInt = 3 → WA X d kc ns m_X5_weigh 152 [some (vR l0), some (vR l1), some (vI x1), some (vI x2)] [] M3 Q) ∧ (x4.toInt = 4 → Cl X (d - 1) 0 0 m_X5_joinHalves [vR l0, vR (l1 + 3), vI x2] M3 (fun r M7 => ∃ x8 : Int32, r = some (vI x8) ∧ Ext M3 M7 ∧ Q (some (vI (x1 + x8))) M7)) ∧ (x4.toInt = 5 → WA X d kc ns m_X5_weigh 152 [some (vR l0), some (vR l1), some (vI x1), some (vI x2)] [] M3 Q) ∧ (x4.toInt = 6 → Cl X (d - 1) 0 0 m_X5_drawSecond [vR l0, vR l1] M3 (fun r M8 => ∃ x9 : Int32, r = some (vI x9) ∧ Ext M3 M8 ∧ Q (some (vI (x1 + x9))) M8)) ∧ (x4.toInt = 7 → Cl X (d - 1) 0 0 m_X5_takeOne [vR l0, vR l1] M3 (fun r M9 => ∃ x10 : Int32, r = some (vI x10) ∧ Ext M3 M9 ∧ Q (some (vI (x1 + x10))) M9)))) ∧ (¬ x2 ≤ (mI M3 (mR M3 l0 5) 1) → Q (some (vI x1)) M3))))))))) :
    WA X d kc ns m_X5_weigh 0 [some (vR l0), some (vR l1), none, none] [] M Q := by
  refine x_aload_n (tk K_X5_weigh 0 rfl) rfl rfl ?_
  refine x_getR (tk K_X5_weigh 1 rfl) f_X5_41 rfl (MiS.o hS) ?_
  refine x_aload_n (tk K_X5_weigh 2 rfl) rfl rfl ?_
  have hS_2 := h.1
  have h := h.2
  refine x_getRc (tk K_X5_weigh 3 rfl) f_X5_66 rfl (GaS.o hS_2) (GaS.r6 hS_2) ?_
  refine x_aload_n (tk K_X5_weigh 4 rfl) rfl rfl ?_
  refine x_getI (tk K_X5_weigh 5 rfl) f_X5_71 rfl (GaS.o hS_2) ?_
  refine x_aload_n (tk K_X5_weigh 6 rfl) rfl rfl ?_
  refine x_getI (tk K_X5_weigh 7 rfl) f_X5_31 rfl (MiS.o hS) ?_
  have hS_23 := h.1
  have h := h.2
  refine x_callV0 (As := [vR _, vI _, vI _]) (S := []) (tk K_X5_weigh 8 rfl) mk_X5_74 mo_X3_worthOfAll (LaS.o hS_23) rfl rfl (Nat.le_of_ble_eq_true rfl) hd h (fun r M1 hq => ?_)
  obtain ⟨x1, rfl, hE, h⟩ := hq
  have hT0 := MiS.ext hS hE
  have hT1 := GaS.ext hS_2 hE
  have hT2 := LaS.ext hS_23 hE
  have hT3 := hE.1 _ _ _ (GaS.k6 hS_2)
  refine x_istore_n (L' := [some (vR _), some (vR _), some (vI _), none]) (tk K_X5_weigh 9 rfl) rfl rfl (Nat.le_of_ble_eq_true rfl) rfl ?_
  refine x_aload_n (tk K_X5_weigh 10 rfl) rfl rfl ?_
  refine x_getI (tk K_X5_weigh 11 rfl) f_X5_78 rfl (GaS.o hT1) ?_
  have h := h _ rfl
  refine x_istore_n (L' := [some (vR _), some (vR _), some (vI _), some (vI _)]) (tk K_X5_weigh 12 rfl) rfl rfl (Nat.le_of_ble_eq_true rfl) rfl ?_
  refine x_aload_n (tk K_X5_weigh 13 rfl) rfl rfl ?_
  refine x_iconst (tk K_X5_weigh 14 rfl) ic_m1 ?_
  have h := h _ rfl
  refine x_putI (tk K_X5_weigh 15 rfl) f_X5_34 rfl (Or.inl rfl) (MiS.o hT0) ?_
  refine x_aload_n (tk K_X5_weigh 16 rfl) rfl rfl ?_
  refine x_callV0 (As := []) (S := []) (tk K_X5_weigh 17 rfl) mk_X5_81 mo_X1_isOver (GaS.o hT1) rfl rfl (Nat.le_of_ble_eq_true rfl) hd h (fun r M3 hq => ?_)
  obtain ⟨x3, rfl, hE, h⟩ := hq
  have hT4 := MiS.ext hT0 hE
  have hT5 := GaS.ext hT1 hE
  have hT6 := LaS.ext hT2 hE
  have hT7 := hE.1 _ _ _ hT3
  refine x_if_ne (t := 53) (tk K_X5_weigh 18 rfl) rfl (fun hc => ?_) (fun hc => ?_)
  · have h := h.1 hc
    refine x_iload_n (tk K_X5_weigh 27 rfl) rfl rfl ?_
    exact x_ireturn (tk K_X5_weigh 28 rfl) rfl rfl h
  · have h := h.2 hc
    refine x_iload_n (tk K_X5_weigh 19 rfl) rfl rfl ?_
    refine x_iconst (tk K_X5_weigh 20 rfl) ic_1 ?_
    refine x_icmp_lt (t := 53) (tk K_X5_weigh 21 rfl) rfl (fun hc => ?_) (fun hc => ?_)
    · have h := h.1 hc
      refine x_iload_n (tk K_X5_weigh 27 rfl) rfl rfl ?_
      exact x_ireturn (tk K_X5_weigh 28 rfl) rfl rfl h
    · have h := h.2 hc
      refine x_iload_n (tk K_X5_weigh 22 rfl) rfl rfl ?_
      refine x_aload_n (tk K_X5_weigh 23 rfl) rfl rfl ?_
      refine x_getR (tk K_X5_weigh 24 rfl) f_X5_41 rfl (MiS.o hT4) ?_
      have hS_44 := h.1
      have h := h.2
      refine x_getI (tk K_X5_weigh 25 rfl) f_X5_56 rfl (LaS.o hS_44) ?_
      refine x_icmp_le (t := 55) (tk K_X5_weigh 26 rfl) rfl (fun hc => ?_) (fun hc => ?_)
      · have h := h.1 hc
        refine x_aload_n (tk K_X5_weigh 29 rfl) rfl rfl ?_
        refine x_getI (tk K_X5_weigh 30 rfl) f_X5_85 rfl (GaS.o hT5) ?_
        have h := h _ rfl
        refine x_table (td := 152) (tk K_X5_weigh 31 rfl) rfl (fun hc => ?_) (fun k hk hk2 => ?_)
        · have h := h.1 hc
          exact h
        · rcases (show k = 0 ∨ k = 1 ∨ k = 2 ∨ k = 3 ∨ k = 4 ∨ k = 5 ∨ k = 6 by omega) with rfl | rfl | rfl | rfl | rfl | rfl | rfl
          · refine ⟨41, 100, rfl, rfl, ?_⟩
            have h := h.2.1 (by omega)
            refine x_iload_n (tk K_X5_weigh 32 rfl) rfl rfl ?_
            refine x_aload_n (tk K_X5_weigh 33 rfl) rfl rfl ?_
            refine x_aload_n (tk K_X5_weigh 34 rfl) rfl rfl ?_
            refine x_getRc (tk K_X5_weigh 35 rfl) f_X5_88 rfl (GaS.o hT5) (GaS.r12 hT5) ?_
            refine x_aload_n (tk K_X5_weigh 36 rfl) rfl rfl ?_
            refine x_getI (tk K_X5_weigh 37 rfl) f_X5_91 rfl (GaS.o hT5) ?_
            refine x_iload_n (tk K_X5_weigh 38 rfl) rfl rfl ?_
            refine x_aload_n (tk K_X5_weigh 39 rfl) rfl rfl ?_
            refine x_iload_n (tk K_X5_weigh 40 rfl) rfl rfl ?_
            refine x_callV0 (As := [vI _]) (S := [vI _, vI _, vR _, vR _, vI _]) (tk K_X5_weigh 41 rfl) mk_X5_94 mo_X5_drawer (MiS.o hT4) rfl rfl (Nat.le_of_ble_eq_true rfl) hd h (fun r M4 hq => ?_)
            obtain ⟨x5, rfl, hE, h⟩ := hq
            have hT8 := MiS.ext hT4 hE
            have hT9 := GaS.ext hT5 hE
            have hT10 := LaS.ext hT6 hE
            have hT11 := LaS.ext hS_44 hE
            have hT12 := hE.1 _ _ _ hT7
            have hT13 := hE.1 _ _ _ (GaS.k12 hT5)
            refine x_callS0 (As := [vI _]) (S := [vI _, vI _, vR _, vR _, vI _]) (tk K_X5_weigh 42 rfl) mk_X5_98 mo_X5_worstFor rfl rfl (Nat.le_of_ble_eq_true rfl) hd h (fun r M5 hq => ?_)
            obtain ⟨x6, rfl, hE, h⟩ := hq
            have hT14 := MiS.ext hT8 hE
            have hT15 := GaS.ext hT9 hE
            have hT16 := LaS.ext hT10 hE
            have hT17 := LaS.ext hT11 hE
            have hT18 := hE.1 _ _ _ hT12
            have hT19 := hE.1 _ _ _ hT13
            refine x_callV0 (As := [vR _, vI _, vI _, vI _]) (S := [vI _]) (tk K_X5_weigh 43 rfl) mk_X5_101 mo_X5_keepOne (MiS.o hT14) rfl rfl (Nat.le_of_ble_eq_true rfl) hd h (fun r M6 hq => ?_)
            obtain ⟨x7, rfl, hE, h⟩ := hq
            have hT20 := MiS.ext hT14 hE
            have hT21 := GaS.ext hT15 hE
            have hT22 := LaS.ext hT16 hE
            have hT23 := LaS.ext hT17 hE
            have hT24 := hE.1 _ _ _ hT18
            have hT25 := hE.1 _ _ _ hT19
            refine x_iadd (tk K_X5_weigh 44 rfl) ?_
            exact x_ireturn (tk K_X5_weigh 45 rfl) rfl rfl h
          · refine ⟨93, 152, rfl, rfl, ?_⟩
            have h := h.2.2.1 (by omega)
            exact h
          · refine ⟨93, 152, rfl, rfl, ?_⟩
            have h := h.2.2.2.1 (by omega)
            exact h
          · refine ⟨65, 124, rfl, rfl, ?_⟩
            have h := h.2.2.2.2.1 (by omega)
            refine x_iload_n (tk K_X5_weigh 46 rfl) rfl rfl ?_
            refine x_aload_n (tk K_X5_weigh 47 rfl) rfl rfl ?_
            refine x_aload_n (tk K_X5_weigh 48 rfl) rfl rfl ?_
            refine x_getRc (tk K_X5_weigh 49 rfl) f_X5_88 rfl (GaS.o hT5) (GaS.r12 hT5) ?_
            refine x_iload_n (tk K_X5_weigh 50 rfl) rfl rfl ?_
            refine x_callV0 (As := [vR _, vI _]) (S := [vI _]) (tk K_X5_weigh 51 rfl) mk_X5_105 mo_X5_joinHalves (MiS.o hT4) rfl rfl (Nat.le_of_ble_eq_true rfl) hd h (fun r M7 hq => ?_)
            obtain ⟨x8, rfl, hE, h⟩ := hq
            have hT26 := MiS.ext hT4 hE
            have hT27 := GaS.ext hT5 hE
            have hT28 := LaS.ext hT6 hE
            have hT29 := LaS.ext hS_44 hE
            have hT30 := hE.1 _ _ _ hT7
            have hT31 := hE.1 _ _ _ (GaS.k12 hT5)
            refine x_iadd (tk K_X5_weigh 52 rfl) ?_
            exact x_ireturn (tk K_X5_weigh 53 rfl) rfl rfl h
          · refine ⟨93, 152, rfl, rfl, ?_⟩
            have h := h.2.2.2.2.2.1 (by omega)
            exact h
          · refine ⟨77, 136, rfl, rfl, ?_⟩
            have h := h.2.2.2.2.2.2.1 (by omega)
            refine x_iload_n (tk K_X5_weigh 54 rfl) rfl rfl ?_
            refine x_aload_n (tk K_X5_weigh 55 rfl) rfl rfl ?_
            refine x_aload_n (tk K_X5_weigh 56 rfl) rfl rfl ?_
            refine x_callV0 (As := [vR _]) (S := [vI _]) (tk K_X5_weigh 57 rfl) mk_X5_109 mo_X5_drawSecond (MiS.o hT4) rfl rfl (Nat.le_of_ble_eq_true rfl) hd h (fun r M8 hq => ?_)
            obtain ⟨x9, rfl, hE, h⟩ := hq
            have hT32 := MiS.ext hT4 hE
            have hT33 := GaS.ext hT5 hE
            have hT34 := LaS.ext hT6 hE
            have hT35 := LaS.ext hS_44 hE
            have hT36 := hE.1 _ _ _ hT7
            refine x_iadd (tk K_X5_weigh 58 rfl) ?_
            exact x_ireturn (tk K_X5_weigh 59 rfl) rfl rfl h
          · refine ⟨85, 144, rfl, rfl, ?_⟩
            have h := h.2.2.2.2.2.2.2 (by omega)
            refine x_iload_n (tk K_X5_weigh 60 rfl) rfl rfl ?_
            refine x_aload_n (tk K_X5_weigh 61 rfl) rfl rfl ?_
            refine x_aload_n (tk K_X5_weigh 62 rfl) rfl rfl ?_
            refine x_callV0 (As := [vR _]) (S := [vI _]) (tk K_X5_weigh 63 rfl) mk_X5_113 mo_X5_takeOne (MiS.o hT4) rfl rfl (Nat.le_of_ble_eq_true rfl) hd h (fun r M9 hq => ?_)
            obtain ⟨x10, rfl, hE, h⟩ := hq
            have hT37 := MiS.ext hT4 hE
            have hT38 := GaS.ext hT5 hE
            have hT39 := LaS.ext hT6 hE
            have hT40 := LaS.ext hS_44 hE
            have hT41 := hE.1 _ _ _ hT7
            refine x_iadd (tk K_X5_weigh 64 rfl) ?_
            exact x_ireturn (tk K_X5_weigh 65 rfl) rfl rfl h
      · have h := h.2 hc
        refine x_iload_n (tk K_X5_weigh 27 rfl) rfl rfl ?_
        exact x_ireturn (tk K_X5_weigh 28 rfl) rfl rfl h

theorem b_X5_weigh_152 {X : Cx} {d kc ns : Nat} {M : Mem} {Q : Option AV → Mem → Prop} {l0 : Nat} {l1 : Nat} {l2 : Int32} {l3 : Int32} (hS : MiS M l0) (hd : 1 ≤ d)
    (h : GaS M l1 ∧ Cl X (d - 1) 0 0 m_X5_ahead [vR l0, vI (mI M l1 8), vI l3] M (fun r M1 => ∃ x1 : Int32, r = some (vI x1) ∧ Ext M M1 ∧ Q (some (vI (l2 + x1))) M1)) :
    WA X d kc ns m_X5_weigh 152 [some (vR l0), some (vR l1), some (vI l2), some (vI l3)] [] M Q := by
  refine x_iload_n (tk K_X5_weigh 66 rfl) rfl rfl ?_
  refine x_aload_n (tk K_X5_weigh 67 rfl) rfl rfl ?_
  refine x_aload_n (tk K_X5_weigh 68 rfl) rfl rfl ?_
  have hS_2 := h.1
  have h := h.2
  refine x_getI (tk K_X5_weigh 69 rfl) f_X5_91 rfl (GaS.o hS_2) ?_
  refine x_iload_n (tk K_X5_weigh 70 rfl) rfl rfl ?_
  refine x_callV0 (As := [vI _, vI _]) (S := [vI _]) (tk K_X5_weigh 71 rfl) mk_X5_116 mo_X5_ahead (MiS.o hS) rfl rfl (Nat.le_of_ble_eq_true rfl) hd h (fun r M1 hq => ?_)
  obtain ⟨x1, rfl, hE, h⟩ := hq
  have hT0 := MiS.ext hS hE
  have hT1 := GaS.ext hS_2 hE
  refine x_iadd (tk K_X5_weigh 72 rfl) ?_
  exact x_ireturn (tk K_X5_weigh 73 rfl) rfl rfl h

theorem e_X5_weigh {X : Cx} {d kc ns : Nat} {M : Mem} {Q : Option AV → Mem → Prop} {a0 : Nat} {a1 : Nat} (h : WA X d kc ns m_X5_weigh 0 [some (vR a0), some (vR a1), none, none] [] M Q) : Cl X d kc ns m_X5_weigh [vR a0, vR a1] M Q := Cl.intro (k := 2) (by decide) rfl rfl h

-- TwoPencils$Mind.ahead(II)I
theorem b_X5_ahead_0 {X : Cx} {d kc ns : Nat} {M : Mem} {Q : Option AV → Mem → Prop} {l0 : Nat} {l1 : Int32} {l2 : Int32} (hS : MiS M l0) (hd : 1 ≤ d)
    (h : ((l2 < (nI 1) → Q (some (vI (nI 0))) M) ∧ (¬ l2 < (nI 1) → LaS M (mR M l0 5) ∧ (((mI M (mR M l0 5) 1) < l2 → Q (some (vI (nI 0))) M) ∧ (¬ (mI M (mR M l0 5) 1) < l2 → ((l1 < nI 0 → Q (some (vI (nI 0))) M) ∧ (¬ l1 < nI 0 → ((l1 < (nI 512) → ∀ x1 : Int32, x1 = (((l2 - (nI 1)) * (nI 512)) + l1) → vp_in x1 2048 ∧ ((¬ (mI M (l0 + 2) (ix x1)) = (-1000) → WA X d kc ns m_X5_ahead 171 [some (vR l0), none, none, some (vI x1)] [] M Q) ∧ ((mI M (l0 + 2) (ix x1)) = (-1000) → PrS M (mR M l0 6) ∧ vp_in ((mI M (mR M l0 5) 1) - l2) 4 ∧ ∀ x2 : Int32, x2 = (mI M ((mR M l0 6) + 1) (ix ((mI M (mR M l0 5) 1) - l2))) → ((x2.toInt = 0 → Cl X (d - 1) 0 0 m_X5_drawForKeeping [vR l0, vI l1, vI l2] M (fun r M1 => ∃ x3 : Int32, r = some (vI x3) ∧ Ext M M1 ∧ vp_in x1 2048 ∧ ∀ M2 : Mem, M2 = sI M1 (l0 + 2) (ix x1) x3 → WA X d kc ns m_X5_ahead 161 [some (vR l0), none, none, some (vI x1)] [] M2 Q)) ∧ (x2.toInt = 3 → Cl X (d - 1) 0 0 m_X5_drawHalves [vR l0, vI l1, vI l2] M (fun r M3 => ∃ x4 : Int32, r = some (vI x4) ∧ Ext M M3 ∧ vp_in x1 2048 ∧ ∀ M4 : Mem, M4 = sI M3 (l0 + 2) (ix x1) x4 → WA X d kc ns m_X5_ahead 161 [some (vR l0), none, none, some (vI x1)] [] M4 Q)) ∧ (x2.toInt = 5 → Cl X (d - 1) 0 0 m_X5_drawFirst [vR l0, vI l1, vI l2] M (fun r M5 => ∃ x5 : Int32, r = some (vI x5) ∧ Ext M M5 ∧ vp_in x1 2048 ∧ ∀ M6 : Mem, M6 = sI M5 (l0 + 2) (ix x1) x5 → WA X d kc ns m_X5_ahead 161 [some (vR l0), none, none, some (vI x1)] [] M6 Q)) ∧ (¬ x2.toInt = 0 → ¬ x2.toInt = 3 → ¬ x2.toInt = 5 → Cl X (d - 1) 0 0 m_X5_drawAll [vR l0, vI l1, vI l2] M (fun r M7 => ∃ x6 : Int32, r = some (vI x6) ∧ Ext M M7 ∧ vp_in x1 2048 ∧ ∀ M8 : Mem, M8 = sI M7 (l0 + 2) (ix x1) x6 → WA X d kc ns m_X5_ahead 161 [some (vR l0), none, none, some (vI x1)] [] M8 Q)))))) ∧ (¬ l1 < (nI 512) → Q (some (vI (nI 0))) M))))))))) :
    WA X d kc ns m_X5_ahead 0 [some (vR l0), some (vI l1), some (vI l2), none] [] M Q := by
  refine x_iload_n (tk K_X5_ahead 0 rfl) rfl rfl ?_
  refine x_iconst (tk K_X5_ahead 1 rfl) ic_1 ?_
  refine x_icmp_lt (t := 27) (tk K_X5_ahead 2 rfl) rfl (fun hc => ?_) (fun hc => ?_)
  · have h := h.1 hc
    refine x_iconst (tk K_X5_ahead 13 rfl) ic_0 ?_
    exact x_ireturn (tk K_X5_ahead 14 rfl) rfl rfl h
  · have h := h.2 hc
    refine x_iload_n (tk K_X5_ahead 3 rfl) rfl rfl ?_
    refine x_aload_n (tk K_X5_ahead 4 rfl) rfl rfl ?_
    refine x_getR (tk K_X5_ahead 5 rfl) f_X5_41 rfl (MiS.o hS) ?_
    have hS_2 := h.1
    have h := h.2
    refine x_getI (tk K_X5_ahead 6 rfl) f_X5_56 rfl (LaS.o hS_2) ?_
    refine x_icmp_gt (t := 27) (tk K_X5_ahead 7 rfl) rfl (fun hc => ?_) (fun hc => ?_)
    · have h := h.1 hc
      refine x_iconst (tk K_X5_ahead 13 rfl) ic_0 ?_
      exact x_ireturn (tk K_X5_ahead 14 rfl) rfl rfl h
    · have h := h.2 hc
      refine x_iload_n (tk K_X5_ahead 8 rfl) rfl rfl ?_
      refine x_if_lt (t := 27) (tk K_X5_ahead 9 rfl) rfl (fun hc => ?_) (fun hc => ?_)
      · have h := h.1 hc
        refine x_iconst (tk K_X5_ahead 13 rfl) ic_0 ?_
        exact x_ireturn (tk K_X5_ahead 14 rfl) rfl rfl h
      · have h := h.2 hc
        refine x_iload_n (tk K_X5_ahead 10 rfl) rfl rfl ?_
        refine x_sipush (tk K_X5_ahead 11 rfl) sp_512 ?_
        refine x_icmp_lt (t := 29) (tk K_X5_ahead 12 rfl) rfl (fun hc => ?_) (fun hc => ?_)
        · have h := h.1 hc
          refine x_iload_n (tk K_X5_ahead 15 rfl) rfl rfl ?_
          refine x_iconst (tk K_X5_ahead 16 rfl) ic_1 ?_
          refine x_isub (tk K_X5_ahead 17 rfl) ?_
          refine x_sipush (tk K_X5_ahead 18 rfl) sp_512 ?_
          refine x_imul (tk K_X5_ahead 19 rfl) ?_
          refine x_iload_n (tk K_X5_ahead 20 rfl) rfl rfl ?_
          refine x_iadd (tk K_X5_ahead 21 rfl) ?_
          have h := h _ rfl
          refine x_istore_n (L' := [some (vR _), some (vI _), some (vI _), some (vI _)]) (tk K_X5_ahead 22 rfl) rfl rfl (Nat.le_of_ble_eq_true rfl) rfl ?_
          refine x_aload_n (tk K_X5_ahead 23 rfl) rfl rfl ?_
          refine x_getRc (tk K_X5_ahead 24 rfl) f_X5_17 rfl (MiS.o hS) (MiS.r2 hS) ?_
          refine x_iload_n (tk K_X5_ahead 25 rfl) rfl rfl ?_
          have hi := h.1
          have h := h.2
          refine x_iald (tk K_X5_ahead 26 rfl) (MiS.k2 hS) hi ?_
          refine x_sipush (tk K_X5_ahead 27 rfl) sp_m1000 ?_
          refine x_icmp_ne (t := 171) (tk K_X5_ahead 28 rfl) rfl (fun hc => ?_) (fun hc => ?_)
          · have h := h.1 hc
            refine x_msk [true, false, false, true] ?_
            exact h
          · have h := h.2 hc
            refine x_aload_n (tk K_X5_ahead 29 rfl) rfl rfl ?_
            refine x_getR (tk K_X5_ahead 30 rfl) f_X5_45 rfl (MiS.o hS) ?_
            have hS_23 := h.1
            have h := h.2
            refine x_getRc (tk K_X5_ahead 31 rfl) f_X5_120 rfl (PrS.o hS_23) (PrS.r0 hS_23) ?_
            refine x_aload_n (tk K_X5_ahead 32 rfl) rfl rfl ?_
            refine x_getR (tk K_X5_ahead 33 rfl) f_X5_41 rfl (MiS.o hS) ?_
            refine x_getI (tk K_X5_ahead 34 rfl) f_X5_56 rfl (LaS.o hS_2) ?_
            refine x_iload_n (tk K_X5_ahead 35 rfl) rfl rfl ?_
            refine x_isub (tk K_X5_ahead 36 rfl) ?_
            have hi := h.1
            have h := h.2
            refine x_iald (tk K_X5_ahead 37 rfl) (PrS.k0 hS_23) hi ?_
            have h := h _ rfl
            refine x_lookup3 (tk K_X5_ahead 38 rfl) rfl rfl rfl rfl rfl (fun hc => ?_) (fun hc => ?_) (fun hc => ?_) (fun hc0 hc1 hc2 => ?_)
            · have h := h.1 hc
              refine x_aload_n (tk K_X5_ahead 39 rfl) rfl rfl ?_
              refine x_getRc (tk K_X5_ahead 40 rfl) f_X5_17 rfl (MiS.o hS) (MiS.r2 hS) ?_
              refine x_iload_n (tk K_X5_ahead 41 rfl) rfl rfl ?_
              refine x_aload_n (tk K_X5_ahead 42 rfl) rfl rfl ?_
              refine x_iload_n (tk K_X5_ahead 43 rfl) rfl rfl ?_
              refine x_iload_n (tk K_X5_ahead 44 rfl) rfl rfl ?_
              refine x_callV0 (As := [vI _, vI _]) (S := [vI _, vR _]) (tk K_X5_ahead 45 rfl) mk_X5_123 mo_X5_drawForKeeping (MiS.o hS) rfl rfl (Nat.le_of_ble_eq_true rfl) hd h (fun r M1 hq => ?_)
              obtain ⟨x3, rfl, hE, h⟩ := hq
              have hT0 := MiS.ext hS hE
              have hT1 := LaS.ext hS_2 hE
              have hT2 := PrS.ext hS_23 hE
              have hT3 := hE.1 _ _ _ (MiS.k2 hS)
              have hT4 := hE.1 _ _ _ (PrS.k0 hS_23)
              have hi := h.1
              have h := h.2
              have h := h _ rfl
              refine x_iast (tk K_X5_ahead 46 rfl) hT3 hi ?_
              refine x_goto (t := 161) (tk K_X5_ahead 47 rfl) rfl ?_
              refine x_msk [true, false, false, true] ?_
              exact h
            · have h := h.2.1 hc
              refine x_aload_n (tk K_X5_ahead 48 rfl) rfl rfl ?_
              refine x_getRc (tk K_X5_ahead 49 rfl) f_X5_17 rfl (MiS.o hS) (MiS.r2 hS) ?_
              refine x_iload_n (tk K_X5_ahead 50 rfl) rfl rfl ?_
              refine x_aload_n (tk K_X5_ahead 51 rfl) rfl rfl ?_
              refine x_iload_n (tk K_X5_ahead 52 rfl) rfl rfl ?_
              refine x_iload_n (tk K_X5_ahead 53 rfl) rfl rfl ?_
              refine x_callV0 (As := [vI _, vI _]) (S := [vI _, vR _]) (tk K_X5_ahead 54 rfl) mk_X5_126 mo_X5_drawHalves (MiS.o hS) rfl rfl (Nat.le_of_ble_eq_true rfl) hd h (fun r M3 hq => ?_)
              obtain ⟨x4, rfl, hE, h⟩ := hq
              have hT5 := MiS.ext hS hE
              have hT6 := LaS.ext hS_2 hE
              have hT7 := PrS.ext hS_23 hE
              have hT8 := hE.1 _ _ _ (MiS.k2 hS)
              have hT9 := hE.1 _ _ _ (PrS.k0 hS_23)
              have hi := h.1
              have h := h.2
              have h := h _ rfl
              refine x_iast (tk K_X5_ahead 55 rfl) hT8 hi ?_
              refine x_goto (t := 161) (tk K_X5_ahead 56 rfl) rfl ?_
              refine x_msk [true, false, false, true] ?_
              exact h
            · have h := h.2.2.1 hc
              refine x_aload_n (tk K_X5_ahead 57 rfl) rfl rfl ?_
              refine x_getRc (tk K_X5_ahead 58 rfl) f_X5_17 rfl (MiS.o hS) (MiS.r2 hS) ?_
              refine x_iload_n (tk K_X5_ahead 59 rfl) rfl rfl ?_
              refine x_aload_n (tk K_X5_ahead 60 rfl) rfl rfl ?_
              refine x_iload_n (tk K_X5_ahead 61 rfl) rfl rfl ?_
              refine x_iload_n (tk K_X5_ahead 62 rfl) rfl rfl ?_
              refine x_callV0 (As := [vI _, vI _]) (S := [vI _, vR _]) (tk K_X5_ahead 63 rfl) mk_X5_129 mo_X5_drawFirst (MiS.o hS) rfl rfl (Nat.le_of_ble_eq_true rfl) hd h (fun r M5 hq => ?_)
              obtain ⟨x5, rfl, hE, h⟩ := hq
              have hT10 := MiS.ext hS hE
              have hT11 := LaS.ext hS_2 hE
              have hT12 := PrS.ext hS_23 hE
              have hT13 := hE.1 _ _ _ (MiS.k2 hS)
              have hT14 := hE.1 _ _ _ (PrS.k0 hS_23)
              have hi := h.1
              have h := h.2
              have h := h _ rfl
              refine x_iast (tk K_X5_ahead 64 rfl) hT13 hi ?_
              refine x_goto (t := 161) (tk K_X5_ahead 65 rfl) rfl ?_
              refine x_msk [true, false, false, true] ?_
              exact h
            · have h := h.2.2.2 hc0 hc1 hc2
              refine x_aload_n (tk K_X5_ahead 66 rfl) rfl rfl ?_
              refine x_getRc (tk K_X5_ahead 67 rfl) f_X5_17 rfl (MiS.o hS) (MiS.r2 hS) ?_
              refine x_iload_n (tk K_X5_ahead 68 rfl) rfl rfl ?_
              refine x_aload_n (tk K_X5_ahead 69 rfl) rfl rfl ?_
              refine x_iload_n (tk K_X5_ahead 70 rfl) rfl rfl ?_
              refine x_iload_n (tk K_X5_ahead 71 rfl) rfl rfl ?_
              refine x_callV0 (As := [vI _, vI _]) (S := [vI _, vR _]) (tk K_X5_ahead 72 rfl) mk_X5_132 mo_X5_drawAll (MiS.o hS) rfl rfl (Nat.le_of_ble_eq_true rfl) hd h (fun r M7 hq => ?_)
              obtain ⟨x6, rfl, hE, h⟩ := hq
              have hT15 := MiS.ext hS hE
              have hT16 := LaS.ext hS_2 hE
              have hT17 := PrS.ext hS_23 hE
              have hT18 := hE.1 _ _ _ (MiS.k2 hS)
              have hT19 := hE.1 _ _ _ (PrS.k0 hS_23)
              have hi := h.1
              have h := h.2
              have h := h _ rfl
              refine x_iast (tk K_X5_ahead 73 rfl) hT18 hi ?_
              refine x_msk [true, false, false, true] ?_
              exact h
        · have h := h.2 hc
          refine x_iconst (tk K_X5_ahead 13 rfl) ic_0 ?_
          exact x_ireturn (tk K_X5_ahead 14 rfl) rfl rfl h

theorem b_X5_ahead_161 {X : Cx} {d kc ns : Nat} {M : Mem} {Q : Option AV → Mem → Prop} {l0 : Nat} {l3 : Int32} (hS : MiS M l0)
    (h : vp_in l3 2048 ∧ ∀ M1 : Mem, M1 = sI M (l0 + 3) (ix l3) (mI M l0 9) → WA X d kc ns m_X5_ahead 171 [some (vR l0), none, none, some (vI l3)] [] M1 Q) :
    WA X d kc ns m_X5_ahead 161 [some (vR l0), none, none, some (vI l3)] [] M Q := by
  refine x_aload_n (tk K_X5_ahead 74 rfl) rfl rfl ?_
  refine x_getRc (tk K_X5_ahead 75 rfl) f_X5_21 rfl (MiS.o hS) (MiS.r3 hS) ?_
  refine x_iload_n (tk K_X5_ahead 76 rfl) rfl rfl ?_
  refine x_aload_n (tk K_X5_ahead 77 rfl) rfl rfl ?_
  refine x_getI (tk K_X5_ahead 78 rfl) f_X5_34 rfl (MiS.o hS) ?_
  have hi := h.1
  have h := h.2
  have h := h _ rfl
  refine x_iast (tk K_X5_ahead 79 rfl) (MiS.k3 hS) hi ?_
  exact h

theorem b_X5_ahead_171 {X : Cx} {d kc ns : Nat} {M : Mem} {Q : Option AV → Mem → Prop} {l0 : Nat} {l3 : Int32} (hS : MiS M l0)
    (h : vp_in l3 2048 ∧ ∀ M1 : Mem, M1 = sI M l0 9 (mI M (l0 + 3) (ix l3)) → vp_in l3 2048 ∧ Q (some (vI (mI M1 (l0 + 2) (ix l3)))) M1) :
    WA X d kc ns m_X5_ahead 171 [some (vR l0), none, none, some (vI l3)] [] M Q := by
  refine x_aload_n (tk K_X5_ahead 80 rfl) rfl rfl ?_
  refine x_aload_n (tk K_X5_ahead 81 rfl) rfl rfl ?_
  refine x_getRc (tk K_X5_ahead 82 rfl) f_X5_21 rfl (MiS.o hS) (MiS.r3 hS) ?_
  refine x_iload_n (tk K_X5_ahead 83 rfl) rfl rfl ?_
  have hi := h.1
  have h := h.2
  refine x_iald (tk K_X5_ahead 84 rfl) (MiS.k3 hS) hi ?_
  have h := h _ rfl
  refine x_putI (tk K_X5_ahead 85 rfl) f_X5_34 rfl (Or.inl rfl) (MiS.o hS) ?_
  refine x_aload_n (tk K_X5_ahead 86 rfl) rfl rfl ?_
  refine x_getRc (tk K_X5_ahead 87 rfl) f_X5_17 rfl (MiS.o hS) (MiS.r2 hS) ?_
  refine x_iload_n (tk K_X5_ahead 88 rfl) rfl rfl ?_
  have hi := h.1
  have h := h.2
  refine x_iald (tk K_X5_ahead 89 rfl) (MiS.k2 hS) hi ?_
  exact x_ireturn (tk K_X5_ahead 90 rfl) rfl rfl h

theorem e_X5_ahead {X : Cx} {d kc ns : Nat} {M : Mem} {Q : Option AV → Mem → Prop} {a0 : Nat} {a1 : Int32} {a2 : Int32} (h : WA X d kc ns m_X5_ahead 0 [some (vR a0), some (vI a1), some (vI a2), none] [] M Q) : Cl X d kc ns m_X5_ahead [vR a0, vI a1, vI a2] M Q := Cl.intro (k := 1) (by decide) rfl rfl h

-- TwoPencils$Mind.cutsOf(II)LTwoPencils$Cutter;
theorem b_X5_cutsOf_0 {X : Cx} {d kc ns : Nat} {M : Mem} {Q : Option AV → Mem → Prop} {l0 : Nat} {l1 : Int32} {l2 : Int32} (hS : MiS M l0) (hd : 1 ≤ d)
    (h : vp_in (l2 - (nI 1)) 4 ∧ LaS M (mR M l0 5) ∧ CuS M (mR M (l0 + 1) (ix (l2 - (nI 1)))) ∧ Cl X (d - 1) 0 0 m_X0_begin [vR (mR M (l0 + 1) (ix (l2 - (nI 1)))), vR ((mR M l0 5) + 8), vI (mI M (mR M l0 5) 0), vI l1, vI l2] M (fun r M1 => r = none ∧ Ext M M1 ∧ Q (some (vR (mR M (l0 + 1) (ix (l2 - (nI 1)))))) M1)) :
    WA X d kc ns m_X5_cutsOf 0 [some (vR l0), some (vI l1), some (vI l2), none] [] M Q := by
  refine x_aload_n (tk K_X5_cutsOf 0 rfl) rfl rfl ?_
  refine x_getRc (tk K_X5_cutsOf 1 rfl) f_X5_11 rfl (MiS.o hS) (MiS.r1 hS) ?_
  refine x_iload_n (tk K_X5_cutsOf 2 rfl) rfl rfl ?_
  refine x_iconst (tk K_X5_cutsOf 3 rfl) ic_1 ?_
  refine x_isub (tk K_X5_cutsOf 4 rfl) ?_
  have hi := h.1
  have h := h.2
  refine x_aald16 (tk K_X5_cutsOf 5 rfl) (MiS.k1 hS) hi ?_
  refine x_astore_n (L' := [some (vR _), some (vI _), some (vI _), some (vR _)]) (tk K_X5_cutsOf 6 rfl) rfl rfl (Nat.le_of_ble_eq_true rfl) rfl ?_
  refine x_aload_n (tk K_X5_cutsOf 7 rfl) rfl rfl ?_
  refine x_aload_n (tk K_X5_cutsOf 8 rfl) rfl rfl ?_
  refine x_getR (tk K_X5_cutsOf 9 rfl) f_X5_41 rfl (MiS.o hS) ?_
  have hS_2 := h.1
  have h := h.2
  refine x_getRc (tk K_X5_cutsOf 10 rfl) f_X5_135 rfl (LaS.o hS_2) (LaS.r11 hS_2) ?_
  refine x_aload_n (tk K_X5_cutsOf 11 rfl) rfl rfl ?_
  refine x_getR (tk K_X5_cutsOf 12 rfl) f_X5_41 rfl (MiS.o hS) ?_
  refine x_getI (tk K_X5_cutsOf 13 rfl) f_X5_138 rfl (LaS.o hS_2) ?_
  refine x_iload_n (tk K_X5_cutsOf 14 rfl) rfl rfl ?_
  refine x_iload_n (tk K_X5_cutsOf 15 rfl) rfl rfl ?_
  have hS_23 := h.1
  have h := h.2
  refine x_callV0 (As := [vR _, vI _, vI _, vI _]) (S := []) (tk K_X5_cutsOf 16 rfl) mk_X5_141 mo_X0_begin (CuS.o hS_23) rfl rfl (Nat.le_of_ble_eq_true rfl) hd h (fun r M1 hq => ?_)
  obtain ⟨rfl, hE, h⟩ := hq
  have hT0 := MiS.ext hS hE
  have hT1 := LaS.ext hS_2 hE
  have hT2 := CuS.ext hS_23 hE
  have hT3 := hE.1 _ _ _ (MiS.k1 hS)
  have hT4 := hE.1 _ _ _ (LaS.k11 hS_2)
  refine x_aload_n (tk K_X5_cutsOf 17 rfl) rfl rfl ?_
  exact x_areturn (tk K_X5_cutsOf 18 rfl) rfl (Or.inl ⟨_, rfl⟩) h

theorem e_X5_cutsOf {X : Cx} {d kc ns : Nat} {M : Mem} {Q : Option AV → Mem → Prop} {a0 : Nat} {a1 : Int32} {a2 : Int32} (h : WA X d kc ns m_X5_cutsOf 0 [some (vR a0), some (vI a1), some (vI a2), none] [] M Q) : Cl X d kc ns m_X5_cutsOf [vR a0, vI a1, vI a2] M Q := Cl.intro (k := 1) (by decide) rfl rfl h

-- TwoPencils$Mind.drawForKeeping(II)I
theorem b_X5_drawForKeeping_0 {X : Cx} {d kc ns : Nat} {M : Mem} {Q : Option AV → Mem → Prop} {l0 : Nat} {l1 : Int32} {l2 : Int32} (hS : MiS M l0) (hd : 1 ≤ d)
    (h : Cl X (d - 1) 0 0 m_X5_drawer [vR l0, vI l2] M (fun r M1 => ∃ x1 : Int32, r = some (vI x1) ∧ Ext M M1 ∧ Cl X (d - 1) 0 0 m_X5_worstFor [vI x1] M1 (fun r M2 => ∃ x2 : Int32, r = some (vI x2) ∧ Ext M1 M2 ∧ Cl X (d - 1) 0 0 m_X5_cutsOf [vR l0, vI l1, vI l2] M2 (fun r M3 => ∃ x3 : Nat, r = some (vR x3) ∧ Ext M2 M3 ∧ WA X d kc ns m_X5_drawForKeeping 26 [some (vR l0), some (vI l1), some (vI l2), some (vI x1), some (vI x2), some (vI (-1)), some (vR x3), some (vI (nI 0)), none] [] M3 Q)))) :
    WA X d kc ns m_X5_drawForKeeping 0 [some (vR l0), some (vI l1), some (vI l2), none, none, none, none, none, none] [] M Q := by
  refine x_aload_n (tk K_X5_drawForKeeping 0 rfl) rfl rfl ?_
  refine x_iload_n (tk K_X5_drawForKeeping 1 rfl) rfl rfl ?_
  refine x_callV0 (As := [vI _]) (S := []) (tk K_X5_drawForKeeping 2 rfl) mk_X5_94 mo_X5_drawer (MiS.o hS) rfl rfl (Nat.le_of_ble_eq_true rfl) hd h (fun r M1 hq => ?_)
  obtain ⟨x1, rfl, hE, h⟩ := hq
  have hT0 := MiS.ext hS hE
  refine x_istore_n (L' := [some (vR _), some (vI _), some (vI _), some (vI _), none, none, none, none, none]) (tk K_X5_drawForKeeping 3 rfl) rfl rfl (Nat.le_of_ble_eq_true rfl) rfl ?_
  refine x_iload_n (tk K_X5_drawForKeeping 4 rfl) rfl rfl ?_
  refine x_callS0 (As := [vI _]) (S := []) (tk K_X5_drawForKeeping 5 rfl) mk_X5_98 mo_X5_worstFor rfl rfl (Nat.le_of_ble_eq_true rfl) hd h (fun r M2 hq => ?_)
  obtain ⟨x2, rfl, hE, h⟩ := hq
  have hT1 := MiS.ext hT0 hE
  refine x_istore (L' := [some (vR _), some (vI _), some (vI _), some (vI _), some (vI _), none, none, none, none]) (tk K_X5_drawForKeeping 6 rfl) rfl (Nat.le_of_ble_eq_true rfl) rfl ?_
  refine x_iconst (tk K_X5_drawForKeeping 7 rfl) ic_m1 ?_
  refine x_istore (L' := [some (vR _), some (vI _), some (vI _), some (vI _), some (vI _), some (vI _), none, none, none]) (tk K_X5_drawForKeeping 8 rfl) rfl (Nat.le_of_ble_eq_true rfl) rfl ?_
  refine x_aload_n (tk K_X5_drawForKeeping 9 rfl) rfl rfl ?_
  refine x_iload_n (tk K_X5_drawForKeeping 10 rfl) rfl rfl ?_
  refine x_iload_n (tk K_X5_drawForKeeping 11 rfl) rfl rfl ?_
  refine x_callV0 (As := [vI _, vI _]) (S := []) (tk K_X5_drawForKeeping 12 rfl) mk_X5_145 mo_X5_cutsOf (MiS.o hT1) rfl rfl (Nat.le_of_ble_eq_true rfl) hd h (fun r M3 hq => ?_)
  obtain ⟨x3, rfl, hE, h⟩ := hq
  have hT2 := MiS.ext hT1 hE
  refine x_astore (L' := [some (vR _), some (vI _), some (vI _), some (vI _), some (vI _), some (vI _), some (vR _), none, none]) (tk K_X5_drawForKeeping 13 rfl) rfl (Nat.le_of_ble_eq_true rfl) rfl ?_
  refine x_iconst (tk K_X5_drawForKeeping 14 rfl) ic_0 ?_
  refine x_istore (L' := [some (vR _), some (vI _), some (vI _), some (vI _), some (vI _), some (vI _), some (vR _), some (vI _), none]) (tk K_X5_drawForKeeping 15 rfl) rfl (Nat.le_of_ble_eq_true rfl) rfl ?_
  exact h

theorem b_X5_drawForKeeping_26 {X : Cx} {d kc ns : Nat} {M : Mem} {Q : Option AV → Mem → Prop} {l0 : Nat} {l1 : Int32} {l2 : Int32} {l3 : Int32} {l4 : Int32} {l5 : Int32} {l6 : Nat} {l7 : Int32} (hS : MiS M l0) (hd : 1 ≤ d)
    (h : (((nI 1000000) ≤ l7 → WA X d kc ns m_X5_drawForKeeping 85 [some (vR l0), none, none, none, some (vI l4), some (vI l5), none, none, none] [] M Q) ∧ (¬ (nI 1000000) ≤ l7 → CuS M l6 ∧ Cl X (d - 1) 0 0 m_X0_next [vR l6] M (fun r M1 => ∃ x1 : Int32, r = some (vI x1) ∧ Ext M M1 ∧ ((x1 = nI 0 → WA X d kc ns m_X5_drawForKeeping 85 [some (vR l0), none, none, none, some (vI l4), some (vI l5), none, none, none] [] M1 Q) ∧ (¬ x1 = nI 0 → Cl X (d - 1) 0 0 m_X5_keepOne [vR l0, vR (l6 + 1), vI l1, vI l2, vI l4] M1 (fun r M2 => ∃ x2 : Int32, r = some (vI x2) ∧ Ext M1 M2 ∧ Cl X (d - 1) 0 0 m_X5_prefers [vI l3, vI x2, vI l4] M2 (fun r M3 => ∃ x3 : Int32, r = some (vI x3) ∧ Ext M2 M3 ∧ ((x3 = nI 0 → WA X d kc ns m_X5_drawForKeeping 26 [some (vR l0), some (vI l1), some (vI l2), some (vI l3), some (vI l4), some (vI l5), some (vR l6), some (vI (l7 + (nI 1))), none] [] M3 Q) ∧ (¬ x3 = nI 0 → Cl X (d - 1) 0 0 m_X0_number [vR l6, vI (nI 2)] M3 (fun r M4 => ∃ x4 : Int32, r = some (vI x4) ∧ Ext M3 M4 ∧ WA X d kc ns m_X5_drawForKeeping 26 [some (vR l0), some (vI l1), some (vI l2), some (vI l3), some (vI x2), some (vI x4), some (vR l6), some (vI (l7 + (nI 1))), none] [] M4 Q))))))))))) :
    WA X d kc ns m_X5_drawForKeeping 26 [some (vR l0), some (vI l1), some (vI l2), some (vI l3), some (vI l4), some (vI l5), some (vR l6), some (vI l7), none] [] M Q := by
  refine x_iload (tk K_X5_drawForKeeping 16 rfl) rfl ?_
  refine x_ldc (tk K_X5_drawForKeeping 17 rfl) kc_X5_149 ?_
  refine x_icmp_ge (t := 85) (tk K_X5_drawForKeeping 18 rfl) rfl (fun hc => ?_) (fun hc => ?_)
  · have h := h.1 hc
    refine x_msk [true, false, false, false, true, true, false, false, false] ?_
    exact h
  · have h := h.2 hc
    refine x_aload (tk K_X5_drawForKeeping 19 rfl) rfl ?_
    have hS_2 := h.1
    have h := h.2
    refine x_callV0 (As := []) (S := []) (tk K_X5_drawForKeeping 20 rfl) mk_X5_150 mo_X0_next (CuS.o hS_2) rfl rfl (Nat.le_of_ble_eq_true rfl) hd h (fun r M1 hq => ?_)
    obtain ⟨x1, rfl, hE, h⟩ := hq
    have hT0 := MiS.ext hS hE
    have hT1 := CuS.ext hS_2 hE
    refine x_if_eq (t := 85) (tk K_X5_drawForKeeping 21 rfl) rfl (fun hc => ?_) (fun hc => ?_)
    · have h := h.1 hc
      refine x_msk [true, false, false, false, true, true, false, false, false] ?_
      exact h
    · have h := h.2 hc
      refine x_aload_n (tk K_X5_drawForKeeping 22 rfl) rfl rfl ?_
      refine x_aload (tk K_X5_drawForKeeping 23 rfl) rfl ?_
      refine x_getRc (tk K_X5_drawForKeeping 24 rfl) f_X5_153 rfl (CuS.o hT1) (CuS.r0 hT1) ?_
      refine x_iload_n (tk K_X5_drawForKeeping 25 rfl) rfl rfl ?_
      refine x_iload_n (tk K_X5_drawForKeeping 26 rfl) rfl rfl ?_
      refine x_iload (tk K_X5_drawForKeeping 27 rfl) rfl ?_
      refine x_callV0 (As := [vR _, vI _, vI _, vI _]) (S := []) (tk K_X5_drawForKeeping 28 rfl) mk_X5_101 mo_X5_keepOne (MiS.o hT0) rfl rfl (Nat.le_of_ble_eq_true rfl) hd h (fun r M2 hq => ?_)
      obtain ⟨x2, rfl, hE, h⟩ := hq
      have hT2 := MiS.ext hT0 hE
      have hT3 := CuS.ext hT1 hE
      have hT4 := hE.1 _ _ _ (CuS.k0 hT1)
      refine x_istore (L' := [some (vR _), some (vI _), some (vI _), some (vI _), some (vI _), some (vI _), some (vR _), some (vI _), some (vI _)]) (tk K_X5_drawForKeeping 29 rfl) rfl (Nat.le_of_ble_eq_true rfl) rfl ?_
      refine x_iload_n (tk K_X5_drawForKeeping 30 rfl) rfl rfl ?_
      refine x_iload (tk K_X5_drawForKeeping 31 rfl) rfl ?_
      refine x_iload (tk K_X5_drawForKeeping 32 rfl) rfl ?_
      refine x_callS0 (As := [vI _, vI _, vI _]) (S := []) (tk K_X5_drawForKeeping 33 rfl) mk_X5_156 mo_X5_prefers rfl rfl (Nat.le_of_ble_eq_true rfl) hd h (fun r M3 hq => ?_)
      obtain ⟨x3, rfl, hE, h⟩ := hq
      have hT5 := MiS.ext hT2 hE
      have hT6 := CuS.ext hT3 hE
      have hT7 := hE.1 _ _ _ hT4
      refine x_if_eq (t := 79) (tk K_X5_drawForKeeping 34 rfl) rfl (fun hc => ?_) (fun hc => ?_)
      · have h := h.1 hc
        refine x_iincW (L' := [some (vR _), some (vI _), some (vI _), some (vI _), some (vI _), some (vI _), some (vR _), some (vI _), some (vI _)]) (tk K_X5_drawForKeeping 41 rfl) rfl ic_1 rfl (Nat.le_of_ble_eq_true rfl) rfl ?_
        refine x_goto (t := 26) (tk K_X5_drawForKeeping 42 rfl) rfl ?_
        refine x_msk [true, true, true, true, true, true, true, true, false] ?_
        exact h
      · have h := h.2 hc
        refine x_iload (tk K_X5_drawForKeeping 35 rfl) rfl ?_
        refine x_istore (L' := [some (vR _), some (vI _), some (vI _), some (vI _), some (vI _), some (vI _), some (vR _), some (vI _), some (vI _)]) (tk K_X5_drawForKeeping 36 rfl) rfl (Nat.le_of_ble_eq_true rfl) rfl ?_
        refine x_aload (tk K_X5_drawForKeeping 37 rfl) rfl ?_
        refine x_iconst (tk K_X5_drawForKeeping 38 rfl) ic_2 ?_
        refine x_callV0 (As := [vI _]) (S := []) (tk K_X5_drawForKeeping 39 rfl) mk_X5_160 mo_X0_number (CuS.o hT6) rfl rfl (Nat.le_of_ble_eq_true rfl) hd h (fun r M4 hq => ?_)
        obtain ⟨x4, rfl, hE, h⟩ := hq
        have hT8 := MiS.ext hT5 hE
        have hT9 := CuS.ext hT6 hE
        have hT10 := hE.1 _ _ _ hT7
        refine x_istore (L' := [some (vR _), some (vI _), some (vI _), some (vI _), some (vI _), some (vI _), some (vR _), some (vI _), some (vI _)]) (tk K_X5_drawForKeeping 40 rfl) rfl (Nat.le_of_ble_eq_true rfl) rfl ?_
        refine x_iincW (L' := [some (vR _), some (vI _), some (vI _), some (vI _), some (vI _), some (vI _), some (vR _), some (vI _), some (vI _)]) (tk K_X5_drawForKeeping 41 rfl) rfl ic_1 rfl (Nat.le_of_ble_eq_true rfl) rfl ?_
        refine x_goto (t := 26) (tk K_X5_drawForKeeping 42 rfl) rfl ?_
        refine x_msk [true, true, true, true, true, true, true, true, false] ?_
        exact h

theorem b_X5_drawForKeeping_85 {X : Cx} {d kc ns : Nat} {M : Mem} {Q : Option AV → Mem → Prop} {l0 : Nat} {l4 : Int32} {l5 : Int32} (hS : MiS M l0)
    (h : ∀ M1 : Mem, M1 = sI M l0 9 l5 → ((¬ l5 = (-1) → Q (some (vI l4)) M1) ∧ (l5 = (-1) → Q (some (vI (nI 0))) M1))) :
    WA X d kc ns m_X5_drawForKeeping 85 [some (vR l0), none, none, none, some (vI l4), some (vI l5), none, none, none] [] M Q := by
  refine x_aload_n (tk K_X5_drawForKeeping 43 rfl) rfl rfl ?_
  refine x_iload (tk K_X5_drawForKeeping 44 rfl) rfl ?_
  have h := h _ rfl
  refine x_putI (tk K_X5_drawForKeeping 45 rfl) f_X5_34 rfl (Or.inl rfl) (MiS.o hS) ?_
  refine x_iload (tk K_X5_drawForKeeping 46 rfl) rfl ?_
  refine x_iconst (tk K_X5_drawForKeeping 47 rfl) ic_m1 ?_
  refine x_icmp_ne (t := 101) (tk K_X5_drawForKeeping 48 rfl) rfl (fun hc => ?_) (fun hc => ?_)
  · have h := h.1 hc
    refine x_iload (tk K_X5_drawForKeeping 51 rfl) rfl ?_
    exact x_ireturn (tk K_X5_drawForKeeping 52 rfl) rfl rfl h
  · have h := h.2 hc
    refine x_iconst (tk K_X5_drawForKeeping 49 rfl) ic_0 ?_
    refine x_goto (t := 103) (tk K_X5_drawForKeeping 50 rfl) rfl ?_
    exact x_ireturn (tk K_X5_drawForKeeping 52 rfl) rfl rfl h

theorem e_X5_drawForKeeping {X : Cx} {d kc ns : Nat} {M : Mem} {Q : Option AV → Mem → Prop} {a0 : Nat} {a1 : Int32} {a2 : Int32} (h : WA X d kc ns m_X5_drawForKeeping 0 [some (vR a0), some (vI a1), some (vI a2), none, none, none, none, none, none] [] M Q) : Cl X d kc ns m_X5_drawForKeeping [vR a0, vI a1, vI a2] M Q := Cl.intro (k := 6) (by decide) rfl rfl h

-- TwoPencils$Mind.keepOne([IIII)I
theorem b_X5_keepOne_0 {X : Cx} {d kc ns : Nat} {M : Mem} {Q : Option AV → Mem → Prop} {l0 : Nat} {l1 : Nat} {l2 : Int32} {l3 : Int32} {l4 : Int32} (hS : MiS M l0) (hd : 1 ≤ d)
    (h : Cl X (d - 1) 0 0 m_X5_drawer [vR l0, vI l3] M (fun r M1 => ∃ x1 : Int32, r = some (vI x1) ∧ Ext M M1 ∧ Cl X (d - 1) 0 0 m_X5_worstFor [vI ((nI 1) - x1)] M1 (fun r M2 => ∃ x2 : Int32, r = some (vI x2) ∧ Ext M1 M2 ∧ WA X d kc ns m_X5_keepOne 22 [some (vR l0), some (vR l1), some (vI l2), some (vI l3), some (vI l4), some (vI x1), some (vI x2), some (vI (-1)), some (vI (nI 0)), none] [] M2 Q))) :
    WA X d kc ns m_X5_keepOne 0 [some (vR l0), some (vR l1), some (vI l2), some (vI l3), some (vI l4), none, none, none, none, none] [] M Q := by
  refine x_aload_n (tk K_X5_keepOne 0 rfl) rfl rfl ?_
  refine x_iload_n (tk K_X5_keepOne 1 rfl) rfl rfl ?_
  refine x_callV0 (As := [vI _]) (S := []) (tk K_X5_keepOne 2 rfl) mk_X5_94 mo_X5_drawer (MiS.o hS) rfl rfl (Nat.le_of_ble_eq_true rfl) hd h (fun r M1 hq => ?_)
  obtain ⟨x1, rfl, hE, h⟩ := hq
  have hT0 := MiS.ext hS hE
  refine x_istore (L' := [some (vR _), some (vR _), some (vI _), some (vI _), some (vI _), some (vI _), none, none, none, none]) (tk K_X5_keepOne 3 rfl) rfl (Nat.le_of_ble_eq_true rfl) rfl ?_
  refine x_iconst (tk K_X5_keepOne 4 rfl) ic_1 ?_
  refine x_iload (tk K_X5_keepOne 5 rfl) rfl ?_
  refine x_isub (tk K_X5_keepOne 6 rfl) ?_
  refine x_callS0 (As := [vI _]) (S := []) (tk K_X5_keepOne 7 rfl) mk_X5_98 mo_X5_worstFor rfl rfl (Nat.le_of_ble_eq_true rfl) hd h (fun r M2 hq => ?_)
  obtain ⟨x2, rfl, hE, h⟩ := hq
  have hT1 := MiS.ext hT0 hE
  refine x_istore (L' := [some (vR _), some (vR _), some (vI _), some (vI _), some (vI _), some (vI _), some (vI _), none, none, none]) (tk K_X5_keepOne 8 rfl) rfl (Nat.le_of_ble_eq_true rfl) rfl ?_
  refine x_iconst (tk K_X5_keepOne 9 rfl) ic_m1 ?_
  refine x_istore (L' := [some (vR _), some (vR _), some (vI _), some (vI _), some (vI _), some (vI _), some (vI _), some (vI _), none, none]) (tk K_X5_keepOne 10 rfl) rfl (Nat.le_of_ble_eq_true rfl) rfl ?_
  refine x_iconst (tk K_X5_keepOne 11 rfl) ic_0 ?_
  refine x_istore (L' := [some (vR _), some (vR _), some (vI _), some (vI _), some (vI _), some (vI _), some (vI _), some (vI _), some (vI _), none]) (tk K_X5_keepOne 12 rfl) rfl (Nat.le_of_ble_eq_true rfl) rfl ?_
  exact h

theorem b_X5_keepOne_22 {X : Cx} {d kc ns : Nat} {M : Mem} {Q : Option AV → Mem → Prop} {l0 : Nat} {l1 : Nat} {l2 : Int32} {l3 : Int32} {l4 : Int32} {l5 : Int32} {l6 : Int32} {l7 : Int32} {l8 : Int32} (hS : MiS M l0) (hd : 1 ≤ d)
    (h : ((l3 ≤ l8 → WA X d kc ns m_X5_keepOne 101 [some (vR l0), none, none, none, none, none, some (vI l6), some (vI l7), none, none] [] M Q) ∧ (¬ l3 ≤ l8 → Cl X (d - 1) 0 0 m_X5_prefers [vI l5, vI l6, vI l4] M (fun r M1 => ∃ x1 : Int32, r = some (vI x1) ∧ Ext M M1 ∧ ((x1 = nI 0 → WA X d kc ns m_X5_keepOne 101 [some (vR l0), none, none, none, none, none, some (vI l6), some (vI l7), none, none] [] M1 Q) ∧ (¬ x1 = nI 0 → ∃ n1 : Nat, isK M1 l1 14 n1 ∧ vp_in l8 n1 ∧ LaS M1 (mR M1 l0 5) ∧ Cl X (d - 1) 0 0 m_X3_worth [vR (mR M1 l0 5), vI (mI M1 l1 (ix l8)), vI (mI M1 l0 8)] M1 (fun r M2 => ∃ x2 : Int32, r = some (vI x2) ∧ Ext M1 M2 ∧ vp_in l8 n1 ∧ Cl X (d - 1) 0 0 m_X5_ahead [vR l0, vI (l2 &&& ((mI M2 l1 (ix l8)) ^^^ (-1))), vI (l3 - (nI 1))] M2 (fun r M3 => ∃ x3 : Int32, r = some (vI x3) ∧ Ext M2 M3 ∧ ∀ x4 : Int32, x4 = (x2 + x3) → Cl X (d - 1) 0 0 m_X5_prefers [vI ((nI 1) - l5), vI x4, vI l6] M3 (fun r M4 => ∃ x5 : Int32, r = some (vI x5) ∧ Ext M3 M4 ∧ ((x5 = nI 0 → WA X d kc ns m_X5_keepOne 22 [some (vR l0), some (vR l1), some (vI l2), some (vI l3), some (vI l4), some (vI l5), some (vI l6), some (vI l7), some (vI (l8 + (nI 1))), none] [] M4 Q) ∧ (¬ x5 = nI 0 → WA X d kc ns m_X5_keepOne 22 [some (vR l0), some (vR l1), some (vI l2), some (vI l3), some (vI l4), some (vI l5), some (vI x4), some (vI l8), some (vI (l8 + (nI 1))), none] [] M4 Q))))))))))) :
    WA X d kc ns m_X5_keepOne 22 [some (vR l0), some (vR l1), some (vI l2), some (vI l3), some (vI l4), some (vI l5), some (vI l6), some (vI l7), some (vI l8), none] [] M Q := by
  refine x_iload (tk K_X5_keepOne 13 rfl) rfl ?_
  refine x_iload_n (tk K_X5_keepOne 14 rfl) rfl rfl ?_
  refine x_icmp_ge (t := 101) (tk K_X5_keepOne 15 rfl) rfl (fun hc => ?_) (fun hc => ?_)
  · have h := h.1 hc
    refine x_msk [true, false, false, false, false, false, true, true, false, false] ?_
    exact h
  · have h := h.2 hc
    refine x_iload (tk K_X5_keepOne 16 rfl) rfl ?_
    refine x_iload (tk K_X5_keepOne 17 rfl) rfl ?_
    refine x_iload (tk K_X5_keepOne 18 rfl) rfl ?_
    refine x_callS0 (As := [vI _, vI _, vI _]) (S := []) (tk K_X5_keepOne 19 rfl) mk_X5_156 mo_X5_prefers rfl rfl (Nat.le_of_ble_eq_true rfl) hd h (fun r M1 hq => ?_)
    obtain ⟨x1, rfl, hE, h⟩ := hq
    have hT0 := MiS.ext hS hE
    refine x_if_eq (t := 101) (tk K_X5_keepOne 20 rfl) rfl (fun hc => ?_) (fun hc => ?_)
    · have h := h.1 hc
      refine x_msk [true, false, false, false, false, false, true, true, false, false] ?_
      exact h
    · have h := h.2 hc
      refine x_aload_n (tk K_X5_keepOne 21 rfl) rfl rfl ?_
      refine x_getR (tk K_X5_keepOne 22 rfl) f_X5_41 rfl (MiS.o hT0) ?_
      refine x_aload_n (tk K_X5_keepOne 23 rfl) rfl rfl ?_
      refine x_iload (tk K_X5_keepOne 24 rfl) rfl ?_
      obtain ⟨n1, hA_n1, h⟩ := h
      have hi := h.1
      have h := h.2
      refine x_iald (tk K_X5_keepOne 25 rfl) hA_n1 hi ?_
      refine x_aload_n (tk K_X5_keepOne 26 rfl) rfl rfl ?_
      refine x_getI (tk K_X5_keepOne 27 rfl) f_X5_31 rfl (MiS.o hT0) ?_
      have hS_22 := h.1
      have h := h.2
      refine x_callV0 (As := [vI _, vI _]) (S := []) (tk K_X5_keepOne 28 rfl) mk_X5_163 mo_X3_worth (LaS.o hS_22) rfl rfl (Nat.le_of_ble_eq_true rfl) hd h (fun r M2 hq => ?_)
      obtain ⟨x2, rfl, hE, h⟩ := hq
      have hT1 := MiS.ext hT0 hE
      have hT2 := LaS.ext hS_22 hE
      have hT3 := hE.1 _ _ _ hA_n1
      refine x_aload_n (tk K_X5_keepOne 29 rfl) rfl rfl ?_
      refine x_iload_n (tk K_X5_keepOne 30 rfl) rfl rfl ?_
      refine x_aload_n (tk K_X5_keepOne 31 rfl) rfl rfl ?_
      refine x_iload (tk K_X5_keepOne 32 rfl) rfl ?_
      have hi := h.1
      have h := h.2
      refine x_iald (tk K_X5_keepOne 33 rfl) hT3 hi ?_
      refine x_iconst (tk K_X5_keepOne 34 rfl) ic_m1 ?_
      refine x_ixor (tk K_X5_keepOne 35 rfl) ?_
      refine x_iand (tk K_X5_keepOne 36 rfl) ?_
      refine x_iload_n (tk K_X5_keepOne 37 rfl) rfl rfl ?_
      refine x_iconst (tk K_X5_keepOne 38 rfl) ic_1 ?_
      refine x_isub (tk K_X5_keepOne 39 rfl) ?_
      refine x_callV0 (As := [vI _, vI _]) (S := [vI _]) (tk K_X5_keepOne 40 rfl) mk_X5_116 mo_X5_ahead (MiS.o hT1) rfl rfl (Nat.le_of_ble_eq_true rfl) hd h (fun r M3 hq => ?_)
      obtain ⟨x3, rfl, hE, h⟩ := hq
      have hT4 := MiS.ext hT1 hE
      have hT5 := LaS.ext hT2 hE
      have hT6 := hE.1 _ _ _ hT3
      refine x_iadd (tk K_X5_keepOne 41 rfl) ?_
      have h := h _ rfl
      refine x_istore (L' := [some (vR _), some (vR _), some (vI _), some (vI _), some (vI _), some (vI _), some (vI _), some (vI _), some (vI _), some (vI _)]) (tk K_X5_keepOne 42 rfl) rfl (Nat.le_of_ble_eq_true rfl) rfl ?_
      refine x_iconst (tk K_X5_keepOne 43 rfl) ic_1 ?_
      refine x_iload (tk K_X5_keepOne 44 rfl) rfl ?_
      refine x_isub (tk K_X5_keepOne 45 rfl) ?_
      refine x_iload (tk K_X5_keepOne 46 rfl) rfl ?_
      refine x_iload (tk K_X5_keepOne 47 rfl) rfl ?_
      refine x_callS0 (As := [vI _, vI _, vI _]) (S := []) (tk K_X5_keepOne 48 rfl) mk_X5_156 mo_X5_prefers rfl rfl (Nat.le_of_ble_eq_true rfl) hd h (fun r M4 hq => ?_)
      obtain ⟨x5, rfl, hE, h⟩ := hq
      have hT7 := MiS.ext hT4 hE
      have hT8 := LaS.ext hT5 hE
      have hT9 := hE.1 _ _ _ hT6
      refine x_if_eq (t := 95) (tk K_X5_keepOne 49 rfl) rfl (fun hc => ?_) (fun hc => ?_)
      · have h := h.1 hc
        refine x_iincW (L' := [some (vR _), some (vR _), some (vI _), some (vI _), some (vI _), some (vI _), some (vI _), some (vI _), some (vI _), some (vI _)]) (tk K_X5_keepOne 54 rfl) rfl ic_1 rfl (Nat.le_of_ble_eq_true rfl) rfl ?_
        refine x_goto (t := 22) (tk K_X5_keepOne 55 rfl) rfl ?_
        refine x_msk [true, true, true, true, true, true, true, true, true, false] ?_
        exact h
      · have h := h.2 hc
        refine x_iload (tk K_X5_keepOne 50 rfl) rfl ?_
        refine x_istore (L' := [some (vR _), some (vR _), some (vI _), some (vI _), some (vI _), some (vI _), some (vI _), some (vI _), some (vI _), some (vI _)]) (tk K_X5_keepOne 51 rfl) rfl (Nat.le_of_ble_eq_true rfl) rfl ?_
        refine x_iload (tk K_X5_keepOne 52 rfl) rfl ?_
        refine x_istore (L' := [some (vR _), some (vR _), some (vI _), some (vI _), some (vI _), some (vI _), some (vI _), some (vI _), some (vI _), some (vI _)]) (tk K_X5_keepOne 53 rfl) rfl (Nat.le_of_ble_eq_true rfl) rfl ?_
        refine x_iincW (L' := [some (vR _), some (vR _), some (vI _), some (vI _), some (vI _), some (vI _), some (vI _), some (vI _), some (vI _), some (vI _)]) (tk K_X5_keepOne 54 rfl) rfl ic_1 rfl (Nat.le_of_ble_eq_true rfl) rfl ?_
        refine x_goto (t := 22) (tk K_X5_keepOne 55 rfl) rfl ?_
        refine x_msk [true, true, true, true, true, true, true, true, true, false] ?_
        exact h

theorem b_X5_keepOne_101 {X : Cx} {d kc ns : Nat} {M : Mem} {Q : Option AV → Mem → Prop} {l0 : Nat} {l6 : Int32} {l7 : Int32} (hS : MiS M l0)
    (h : ∀ M1 : Mem, M1 = sI M l0 9 l7 → Q (some (vI l6)) M1) :
    WA X d kc ns m_X5_keepOne 101 [some (vR l0), none, none, none, none, none, some (vI l6), some (vI l7), none, none] [] M Q := by
  refine x_aload_n (tk K_X5_keepOne 56 rfl) rfl rfl ?_
  refine x_iload (tk K_X5_keepOne 57 rfl) rfl ?_
  have h := h _ rfl
  refine x_putI (tk K_X5_keepOne 58 rfl) f_X5_34 rfl (Or.inl rfl) (MiS.o hS) ?_
  refine x_iload (tk K_X5_keepOne 59 rfl) rfl ?_
  exact x_ireturn (tk K_X5_keepOne 60 rfl) rfl rfl h

theorem e_X5_keepOne {X : Cx} {d kc ns : Nat} {M : Mem} {Q : Option AV → Mem → Prop} {a0 : Nat} {a1 : Nat} {a2 : Int32} {a3 : Int32} {a4 : Int32} (h : WA X d kc ns m_X5_keepOne 0 [some (vR a0), some (vR a1), some (vI a2), some (vI a3), some (vI a4), none, none, none, none, none] [] M Q) : Cl X d kc ns m_X5_keepOne [vR a0, vR a1, vI a2, vI a3, vI a4] M Q := Cl.intro (k := 5) (by decide) rfl rfl h

-- TwoPencils$Mind.drawAll(II)I
theorem b_X5_drawAll_0 {X : Cx} {d kc ns : Nat} {M : Mem} {Q : Option AV → Mem → Prop} {l0 : Nat} {l1 : Int32} {l2 : Int32} (hS : MiS M l0) (hd : 1 ≤ d)
    (h : Cl X (d - 1) 0 0 m_X5_drawer [vR l0, vI l2] M (fun r M1 => ∃ x1 : Int32, r = some (vI x1) ∧ Ext M M1 ∧ Cl X (d - 1) 0 0 m_X5_cutsOf [vR l0, vI l1, vI l2] M1 (fun r M2 => ∃ x2 : Nat, r = some (vR x2) ∧ Ext M1 M2 ∧ WA X d kc ns m_X5_drawAll 23 [some (vR l0), none, some (vI l2), some (vI x1), some (vI (nI 0)), some (vI (-1)), some (vR x2), some (vI (nI 0)), none] [] M2 Q))) :
    WA X d kc ns m_X5_drawAll 0 [some (vR l0), some (vI l1), some (vI l2), none, none, none, none, none, none] [] M Q := by
  refine x_aload_n (tk K_X5_drawAll 0 rfl) rfl rfl ?_
  refine x_iload_n (tk K_X5_drawAll 1 rfl) rfl rfl ?_
  refine x_callV0 (As := [vI _]) (S := []) (tk K_X5_drawAll 2 rfl) mk_X5_94 mo_X5_drawer (MiS.o hS) rfl rfl (Nat.le_of_ble_eq_true rfl) hd h (fun r M1 hq => ?_)
  obtain ⟨x1, rfl, hE, h⟩ := hq
  have hT0 := MiS.ext hS hE
  refine x_istore_n (L' := [some (vR _), some (vI _), some (vI _), some (vI _), none, none, none, none, none]) (tk K_X5_drawAll 3 rfl) rfl rfl (Nat.le_of_ble_eq_true rfl) rfl ?_
  refine x_iconst (tk K_X5_drawAll 4 rfl) ic_0 ?_
  refine x_istore (L' := [some (vR _), some (vI _), some (vI _), some (vI _), some (vI _), none, none, none, none]) (tk K_X5_drawAll 5 rfl) rfl (Nat.le_of_ble_eq_true rfl) rfl ?_
  refine x_iconst (tk K_X5_drawAll 6 rfl) ic_m1 ?_
  refine x_istore (L' := [some (vR _), some (vI _), some (vI _), some (vI _), some (vI _), some (vI _), none, none, none]) (tk K_X5_drawAll 7 rfl) rfl (Nat.le_of_ble_eq_true rfl) rfl ?_
  refine x_aload_n (tk K_X5_drawAll 8 rfl) rfl rfl ?_
  refine x_iload_n (tk K_X5_drawAll 9 rfl) rfl rfl ?_
  refine x_iload_n (tk K_X5_drawAll 10 rfl) rfl rfl ?_
  refine x_callV0 (As := [vI _, vI _]) (S := []) (tk K_X5_drawAll 11 rfl) mk_X5_145 mo_X5_cutsOf (MiS.o hT0) rfl rfl (Nat.le_of_ble_eq_true rfl) hd h (fun r M2 hq => ?_)
  obtain ⟨x2, rfl, hE, h⟩ := hq
  have hT1 := MiS.ext hT0 hE
  refine x_astore (L' := [some (vR _), some (vI _), some (vI _), some (vI _), some (vI _), some (vI _), some (vR _), none, none]) (tk K_X5_drawAll 12 rfl) rfl (Nat.le_of_ble_eq_true rfl) rfl ?_
  refine x_iconst (tk K_X5_drawAll 13 rfl) ic_0 ?_
  refine x_istore (L' := [some (vR _), some (vI _), some (vI _), some (vI _), some (vI _), some (vI _), some (vR _), some (vI _), none]) (tk K_X5_drawAll 14 rfl) rfl (Nat.le_of_ble_eq_true rfl) rfl ?_
  refine x_msk [true, false, true, true, true, true, true, true, false] ?_
  exact h

theorem b_X5_drawAll_23 {X : Cx} {d kc ns : Nat} {M : Mem} {Q : Option AV → Mem → Prop} {l0 : Nat} {l2 : Int32} {l3 : Int32} {l4 : Int32} {l5 : Int32} {l6 : Nat} {l7 : Int32} (hS : MiS M l0) (hd : 1 ≤ d)
    (h : (((nI 1000000) ≤ l7 → WA X d kc ns m_X5_drawAll 92 [some (vR l0), none, none, none, some (vI l4), some (vI l5), none, none, none] [] M Q) ∧ (¬ (nI 1000000) ≤ l7 → CuS M l6 ∧ Cl X (d - 1) 0 0 m_X0_next [vR l6] M (fun r M1 => ∃ x1 : Int32, r = some (vI x1) ∧ Ext M M1 ∧ ((x1 = nI 0 → WA X d kc ns m_X5_drawAll 92 [some (vR l0), none, none, none, some (vI l4), some (vI l5), none, none, none] [] M1 Q) ∧ (¬ x1 = nI 0 → LaS M1 (mR M1 l0 5) ∧ Cl X (d - 1) 0 0 m_X3_worthOfAll [vR (mR M1 l0 5), vR (l6 + 1), vI l2, vI (mI M1 l0 8)] M1 (fun r M2 => ∃ x2 : Int32, r = some (vI x2) ∧ Ext M1 M2 ∧ ((l5 = (-1) → WA X d kc ns m_X5_drawAll 74 [some (vR l0), none, some (vI l2), some (vI l3), none, none, some (vR l6), some (vI l7), some (vI x2)] [] M2 Q) ∧ (¬ l5 = (-1) → Cl X (d - 1) 0 0 m_X5_prefers [vI l3, vI x2, vI l4] M2 (fun r M3 => ∃ x3 : Int32, r = some (vI x3) ∧ Ext M2 M3 ∧ ((x3 = nI 0 → WA X d kc ns m_X5_drawAll 23 [some (vR l0), none, some (vI l2), some (vI l3), some (vI l4), some (vI l5), some (vR l6), some (vI (l7 + (nI 1))), none] [] M3 Q) ∧ (¬ x3 = nI 0 → WA X d kc ns m_X5_drawAll 74 [some (vR l0), none, some (vI l2), some (vI l3), none, none, some (vR l6), some (vI l7), some (vI x2)] [] M3 Q)))))))))))) :
    WA X d kc ns m_X5_drawAll 23 [some (vR l0), none, some (vI l2), some (vI l3), some (vI l4), some (vI l5), some (vR l6), some (vI l7), none] [] M Q := by
  refine x_iload (tk K_X5_drawAll 15 rfl) rfl ?_
  refine x_ldc (tk K_X5_drawAll 16 rfl) kc_X5_149 ?_
  refine x_icmp_ge (t := 92) (tk K_X5_drawAll 17 rfl) rfl (fun hc => ?_) (fun hc => ?_)
  · have h := h.1 hc
    refine x_msk [true, false, false, false, true, true, false, false, false] ?_
    exact h
  · have h := h.2 hc
    refine x_aload (tk K_X5_drawAll 18 rfl) rfl ?_
    have hS_2 := h.1
    have h := h.2
    refine x_callV0 (As := []) (S := []) (tk K_X5_drawAll 19 rfl) mk_X5_150 mo_X0_next (CuS.o hS_2) rfl rfl (Nat.le_of_ble_eq_true rfl) hd h (fun r M1 hq => ?_)
    obtain ⟨x1, rfl, hE, h⟩ := hq
    have hT0 := MiS.ext hS hE
    have hT1 := CuS.ext hS_2 hE
    refine x_if_eq (t := 92) (tk K_X5_drawAll 20 rfl) rfl (fun hc => ?_) (fun hc => ?_)
    · have h := h.1 hc
      refine x_msk [true, false, false, false, true, true, false, false, false] ?_
      exact h
    · have h := h.2 hc
      refine x_aload_n (tk K_X5_drawAll 21 rfl) rfl rfl ?_
      refine x_getR (tk K_X5_drawAll 22 rfl) f_X5_41 rfl (MiS.o hT0) ?_
      refine x_aload (tk K_X5_drawAll 23 rfl) rfl ?_
      refine x_getRc (tk K_X5_drawAll 24 rfl) f_X5_153 rfl (CuS.o hT1) (CuS.r0 hT1) ?_
      refine x_iload_n (tk K_X5_drawAll 25 rfl) rfl rfl ?_
      refine x_aload_n (tk K_X5_drawAll 26 rfl) rfl rfl ?_
      refine x_getI (tk K_X5_drawAll 27 rfl) f_X5_31 rfl (MiS.o hT0) ?_
      have hS_23 := h.1
      have h := h.2
      refine x_callV0 (As := [vR _, vI _, vI _]) (S := []) (tk K_X5_drawAll 28 rfl) mk_X5_74 mo_X3_worthOfAll (LaS.o hS_23) rfl rfl (Nat.le_of_ble_eq_true rfl) hd h (fun r M2 hq => ?_)
      obtain ⟨x2, rfl, hE, h⟩ := hq
      have hT2 := MiS.ext hT0 hE
      have hT3 := CuS.ext hT1 hE
      have hT4 := LaS.ext hS_23 hE
      have hT5 := hE.1 _ _ _ (CuS.k0 hT1)
      refine x_istore (L' := [some (vR _), none, some (vI _), some (vI _), some (vI _), some (vI _), some (vR _), some (vI _), some (vI _)]) (tk K_X5_drawAll 29 rfl) rfl (Nat.le_of_ble_eq_true rfl) rfl ?_
      refine x_iload (tk K_X5_drawAll 30 rfl) rfl ?_
      refine x_iconst (tk K_X5_drawAll 31 rfl) ic_m1 ?_
      refine x_icmp_eq (t := 74) (tk K_X5_drawAll 32 rfl) rfl (fun hc => ?_) (fun hc => ?_)
      · have h := h.1 hc
        refine x_msk [true, false, true, true, false, false, true, true, true] ?_
        exact h
      · have h := h.2 hc
        refine x_iload_n (tk K_X5_drawAll 33 rfl) rfl rfl ?_
        refine x_iload (tk K_X5_drawAll 34 rfl) rfl ?_
        refine x_iload (tk K_X5_drawAll 35 rfl) rfl ?_
        refine x_callS0 (As := [vI _, vI _, vI _]) (S := []) (tk K_X5_drawAll 36 rfl) mk_X5_156 mo_X5_prefers rfl rfl (Nat.le_of_ble_eq_true rfl) hd h (fun r M3 hq => ?_)
        obtain ⟨x3, rfl, hE, h⟩ := hq
        have hT6 := MiS.ext hT2 hE
        have hT7 := CuS.ext hT3 hE
        have hT8 := LaS.ext hT4 hE
        have hT9 := hE.1 _ _ _ hT5
        refine x_if_eq (t := 86) (tk K_X5_drawAll 37 rfl) rfl (fun hc => ?_) (fun hc => ?_)
        · have h := h.1 hc
          refine x_iincW (L' := [some (vR _), none, some (vI _), some (vI _), some (vI _), some (vI _), some (vR _), some (vI _), some (vI _)]) (tk K_X5_drawAll 44 rfl) rfl ic_1 rfl (Nat.le_of_ble_eq_true rfl) rfl ?_
          refine x_goto (t := 23) (tk K_X5_drawAll 45 rfl) rfl ?_
          refine x_msk [true, false, true, true, true, true, true, true, false] ?_
          exact h
        · have h := h.2 hc
          refine x_msk [true, false, true, true, false, false, true, true, true] ?_
          exact h

theorem b_X5_drawAll_74 {X : Cx} {d kc ns : Nat} {M : Mem} {Q : Option AV → Mem → Prop} {l0 : Nat} {l2 : Int32} {l3 : Int32} {l6 : Nat} {l7 : Int32} {l8 : Int32} (hS : MiS M l0) (hd : 1 ≤ d)
    (h : CuS M l6 ∧ Cl X (d - 1) 0 0 m_X0_number [vR l6, vI (nI 2)] M (fun r M1 => ∃ x1 : Int32, r = some (vI x1) ∧ Ext M M1 ∧ WA X d kc ns m_X5_drawAll 23 [some (vR l0), none, some (vI l2), some (vI l3), some (vI l8), some (vI x1), some (vR l6), some (vI (l7 + (nI 1))), none] [] M1 Q)) :
    WA X d kc ns m_X5_drawAll 74 [some (vR l0), none, some (vI l2), some (vI l3), none, none, some (vR l6), some (vI l7), some (vI l8)] [] M Q := by
  refine x_iload (tk K_X5_drawAll 38 rfl) rfl ?_
  refine x_istore (L' := [some (vR _), none, some (vI _), some (vI _), some (vI _), none, some (vR _), some (vI _), some (vI _)]) (tk K_X5_drawAll 39 rfl) rfl (Nat.le_of_ble_eq_true rfl) rfl ?_
  refine x_aload (tk K_X5_drawAll 40 rfl) rfl ?_
  refine x_iconst (tk K_X5_drawAll 41 rfl) ic_2 ?_
  have hS_2 := h.1
  have h := h.2
  refine x_callV0 (As := [vI _]) (S := []) (tk K_X5_drawAll 42 rfl) mk_X5_160 mo_X0_number (CuS.o hS_2) rfl rfl (Nat.le_of_ble_eq_true rfl) hd h (fun r M1 hq => ?_)
  obtain ⟨x1, rfl, hE, h⟩ := hq
  have hT0 := MiS.ext hS hE
  have hT1 := CuS.ext hS_2 hE
  refine x_istore (L' := [some (vR _), none, some (vI _), some (vI _), some (vI _), some (vI _), some (vR _), some (vI _), some (vI _)]) (tk K_X5_drawAll 43 rfl) rfl (Nat.le_of_ble_eq_true rfl) rfl ?_
  refine x_iincW (L' := [some (vR _), none, some (vI _), some (vI _), some (vI _), some (vI _), some (vR _), some (vI _), some (vI _)]) (tk K_X5_drawAll 44 rfl) rfl ic_1 rfl (Nat.le_of_ble_eq_true rfl) rfl ?_
  refine x_goto (t := 23) (tk K_X5_drawAll 45 rfl) rfl ?_
  refine x_msk [true, false, true, true, true, true, true, true, false] ?_
  exact h

theorem b_X5_drawAll_92 {X : Cx} {d kc ns : Nat} {M : Mem} {Q : Option AV → Mem → Prop} {l0 : Nat} {l4 : Int32} {l5 : Int32} (hS : MiS M l0)
    (h : ∀ M1 : Mem, M1 = sI M l0 9 l5 → Q (some (vI l4)) M1) :
    WA X d kc ns m_X5_drawAll 92 [some (vR l0), none, none, none, some (vI l4), some (vI l5), none, none, none] [] M Q := by
  refine x_aload_n (tk K_X5_drawAll 46 rfl) rfl rfl ?_
  refine x_iload (tk K_X5_drawAll 47 rfl) rfl ?_
  have h := h _ rfl
  refine x_putI (tk K_X5_drawAll 48 rfl) f_X5_34 rfl (Or.inl rfl) (MiS.o hS) ?_
  refine x_iload (tk K_X5_drawAll 49 rfl) rfl ?_
  exact x_ireturn (tk K_X5_drawAll 50 rfl) rfl rfl h

theorem e_X5_drawAll {X : Cx} {d kc ns : Nat} {M : Mem} {Q : Option AV → Mem → Prop} {a0 : Nat} {a1 : Int32} {a2 : Int32} (h : WA X d kc ns m_X5_drawAll 0 [some (vR a0), some (vI a1), some (vI a2), none, none, none, none, none, none] [] M Q) : Cl X d kc ns m_X5_drawAll [vR a0, vI a1, vI a2] M Q := Cl.intro (k := 6) (by decide) rfl rfl h

-- TwoPencils$Mind.drawHalves(II)I
theorem b_X5_drawHalves_0 {X : Cx} {d kc ns : Nat} {M : Mem} {Q : Option AV → Mem → Prop} {l0 : Nat} {l1 : Int32} {l2 : Int32} (hS : MiS M l0) (hd : 1 ≤ d)
    (h : Cl X (d - 1) 0 0 m_X5_drawer [vR l0, vI l2] M (fun r M1 => ∃ x1 : Int32, r = some (vI x1) ∧ Ext M M1 ∧ vp_in (l2 - (nI 1)) 4 ∧ LaS M1 (mR M1 l0 5) ∧ CuS M1 (mR M1 (l0 + 1) (ix (l2 - (nI 1)))) ∧ Cl X (d - 1) 0 0 m_X0_begin [vR (mR M1 (l0 + 1) (ix (l2 - (nI 1)))), vR ((mR M1 l0 5) + 7), vI (mI M1 (mR M1 l0 5) 0), vI l1, vI ((nI 2) * l2)] M1 (fun r M2 => r = none ∧ Ext M1 M2 ∧ WA X d kc ns m_X5_drawHalves 48 [some (vR l0), none, some (vI l2), some (vI x1), some (vI (nI 0)), some (vI (-1)), some (vR (mR M1 (l0 + 1) (ix (l2 - (nI 1))))), some (vI (nI 0))] [] M2 Q))) :
    WA X d kc ns m_X5_drawHalves 0 [some (vR l0), some (vI l1), some (vI l2), none, none, none, none, none] [] M Q := by
  refine x_aload_n (tk K_X5_drawHalves 0 rfl) rfl rfl ?_
  refine x_iload_n (tk K_X5_drawHalves 1 rfl) rfl rfl ?_
  refine x_callV0 (As := [vI _]) (S := []) (tk K_X5_drawHalves 2 rfl) mk_X5_94 mo_X5_drawer (MiS.o hS) rfl rfl (Nat.le_of_ble_eq_true rfl) hd h (fun r M1 hq => ?_)
  obtain ⟨x1, rfl, hE, h⟩ := hq
  have hT0 := MiS.ext hS hE
  refine x_istore_n (L' := [some (vR _), some (vI _), some (vI _), some (vI _), none, none, none, none]) (tk K_X5_drawHalves 3 rfl) rfl rfl (Nat.le_of_ble_eq_true rfl) rfl ?_
  refine x_iconst (tk K_X5_drawHalves 4 rfl) ic_0 ?_
  refine x_istore (L' := [some (vR _), some (vI _), some (vI _), some (vI _), some (vI _), none, none, none]) (tk K_X5_drawHalves 5 rfl) rfl (Nat.le_of_ble_eq_true rfl) rfl ?_
  refine x_iconst (tk K_X5_drawHalves 6 rfl) ic_m1 ?_
  refine x_istore (L' := [some (vR _), some (vI _), some (vI _), some (vI _), some (vI _), some (vI _), none, none]) (tk K_X5_drawHalves 7 rfl) rfl (Nat.le_of_ble_eq_true rfl) rfl ?_
  refine x_aload_n (tk K_X5_drawHalves 8 rfl) rfl rfl ?_
  refine x_getRc (tk K_X5_drawHalves 9 rfl) f_X5_11 rfl (MiS.o hT0) (MiS.r1 hT0) ?_
  refine x_iload_n (tk K_X5_drawHalves 10 rfl) rfl rfl ?_
  refine x_iconst (tk K_X5_drawHalves 11 rfl) ic_1 ?_
  refine x_isub (tk K_X5_drawHalves 12 rfl) ?_
  have hi := h.1
  have h := h.2
  refine x_aald16 (tk K_X5_drawHalves 13 rfl) (MiS.k1 hT0) hi ?_
  refine x_astore (L' := [some (vR _), some (vI _), some (vI _), some (vI _), some (vI _), some (vI _), some (vR _), none]) (tk K_X5_drawHalves 14 rfl) rfl (Nat.le_of_ble_eq_true rfl) rfl ?_
  refine x_aload (tk K_X5_drawHalves 15 rfl) rfl ?_
  refine x_aload_n (tk K_X5_drawHalves 16 rfl) rfl rfl ?_
  refine x_getR (tk K_X5_drawHalves 17 rfl) f_X5_41 rfl (MiS.o hT0) ?_
  have hS_2 := h.1
  have h := h.2
  refine x_getRc (tk K_X5_drawHalves 18 rfl) f_X5_166 rfl (LaS.o hS_2) (LaS.r10 hS_2) ?_
  refine x_aload_n (tk K_X5_drawHalves 19 rfl) rfl rfl ?_
  refine x_getR (tk K_X5_drawHalves 20 rfl) f_X5_41 rfl (MiS.o hT0) ?_
  refine x_getI (tk K_X5_drawHalves 21 rfl) f_X5_138 rfl (LaS.o hS_2) ?_
  refine x_iload_n (tk K_X5_drawHalves 22 rfl) rfl rfl ?_
  refine x_iconst (tk K_X5_drawHalves 23 rfl) ic_2 ?_
  refine x_iload_n (tk K_X5_drawHalves 24 rfl) rfl rfl ?_
  refine x_imul (tk K_X5_drawHalves 25 rfl) ?_
  have hS_23 := h.1
  have h := h.2
  refine x_callV0 (As := [vR _, vI _, vI _, vI _]) (S := []) (tk K_X5_drawHalves 26 rfl) mk_X5_141 mo_X0_begin (CuS.o hS_23) rfl rfl (Nat.le_of_ble_eq_true rfl) hd h (fun r M2 hq => ?_)
  obtain ⟨rfl, hE, h⟩ := hq
  have hT1 := MiS.ext hT0 hE
  have hT2 := LaS.ext hS_2 hE
  have hT3 := CuS.ext hS_23 hE
  have hT4 := hE.1 _ _ _ (MiS.k1 hT0)
  have hT5 := hE.1 _ _ _ (LaS.k10 hS_2)
  refine x_iconst (tk K_X5_drawHalves 27 rfl) ic_0 ?_
  refine x_istore (L' := [some (vR _), some (vI _), some (vI _), some (vI _), some (vI _), some (vI _), some (vR _), some (vI _)]) (tk K_X5_drawHalves 28 rfl) rfl (Nat.le_of_ble_eq_true rfl) rfl ?_
  refine x_msk [true, false, true, true, true, true, true, true] ?_
  exact h

theorem b_X5_drawHalves_48 {X : Cx} {d kc ns : Nat} {M : Mem} {Q : Option AV → Mem → Prop} {l0 : Nat} {l2 : Int32} {l3 : Int32} {l4 : Int32} {l5 : Int32} {l6 : Nat} {l7 : Int32} (hS : MiS M l0) (hd : 1 ≤ d)
    (h : (((nI 1000000) ≤ l7 → WA X d kc ns m_X5_drawHalves 138 [some (vR l0), none, none, none, some (vI l4), some (vI l5), none, none] [] M Q) ∧ (¬ (nI 1000000) ≤ l7 → CuS M l6 ∧ Cl X (d - 1) 0 0 m_X0_next [vR l6] M (fun r M1 => ∃ x1 : Int32, r = some (vI x1) ∧ Ext M M1 ∧ ((x1 = nI 0 → WA X d kc ns m_X5_drawHalves 138 [some (vR l0), none, none, none, some (vI l4), some (vI l5), none, none] [] M1 Q) ∧ (¬ x1 = nI 0 → Cl X (d - 1) 0 0 m_X2_join [vR 35, vR (mR M1 l0 5), vR (l6 + 1), vI l2, vI ((nI 1) - l3), vI (mI M1 l0 8)] M1 (fun r M2 => ∃ x2 : Int32, r = some (vI x2) ∧ Ext M1 M2 ∧ ((¬ x2 = nI 0 → ((l5 = (-1) → WA X d kc ns m_X5_drawHalves 115 [some (vR l0), none, some (vI l2), some (vI l3), none, none, some (vR l6), some (vI l7)] [] M2 Q) ∧ (¬ l5 = (-1) → Cl X (d - 1) 0 0 m_X5_prefers [vI l3, vI (mI M2 35 7), vI l4] M2 (fun r M3 => ∃ x3 : Int32, r = some (vI x3) ∧ Ext M2 M3 ∧ ((x3 = nI 0 → WA X d kc ns m_X5_drawHalves 48 [some (vR l0), none, some (vI l2), some (vI l3), some (vI l4), some (vI l5), some (vR l6), some (vI (l7 + (nI 1)))] [] M3 Q) ∧ (¬ x3 = nI 0 → WA X d kc ns m_X5_drawHalves 115 [some (vR l0), none, some (vI l2), some (vI l3), none, none, some (vR l6), some (vI l7)] [] M3 Q)))))) ∧ (x2 = nI 0 → WA X d kc ns m_X5_drawHalves 48 [some (vR l0), none, some (vI l2), some (vI l3), some (vI l4), some (vI l5), some (vR l6), some (vI (l7 + (nI 1)))] [] M2 Q))))))))) :
    WA X d kc ns m_X5_drawHalves 48 [some (vR l0), none, some (vI l2), some (vI l3), some (vI l4), some (vI l5), some (vR l6), some (vI l7)] [] M Q := by
  refine x_iload (tk K_X5_drawHalves 29 rfl) rfl ?_
  refine x_ldc (tk K_X5_drawHalves 30 rfl) kc_X5_149 ?_
  refine x_icmp_ge (t := 138) (tk K_X5_drawHalves 31 rfl) rfl (fun hc => ?_) (fun hc => ?_)
  · have h := h.1 hc
    refine x_msk [true, false, false, false, true, true, false, false] ?_
    exact h
  · have h := h.2 hc
    refine x_aload (tk K_X5_drawHalves 32 rfl) rfl ?_
    have hS_2 := h.1
    have h := h.2
    refine x_callV0 (As := []) (S := []) (tk K_X5_drawHalves 33 rfl) mk_X5_150 mo_X0_next (CuS.o hS_2) rfl rfl (Nat.le_of_ble_eq_true rfl) hd h (fun r M1 hq => ?_)
    obtain ⟨x1, rfl, hE, h⟩ := hq
    have hT0 := MiS.ext hS hE
    have hT1 := CuS.ext hS_2 hE
    refine x_if_eq (t := 138) (tk K_X5_drawHalves 34 rfl) rfl (fun hc => ?_) (fun hc => ?_)
    · have h := h.1 hc
      refine x_msk [true, false, false, false, true, true, false, false] ?_
      exact h
    · have h := h.2 hc
      refine x_aload_n (tk K_X5_drawHalves 35 rfl) rfl rfl ?_
      refine x_getRc (tk K_X5_drawHalves 36 rfl) f_X5_37 rfl (MiS.o hT0) (MiS.r0 hT0) ?_
      refine x_aload_n (tk K_X5_drawHalves 37 rfl) rfl rfl ?_
      refine x_getR (tk K_X5_drawHalves 38 rfl) f_X5_41 rfl (MiS.o hT0) ?_
      refine x_aload (tk K_X5_drawHalves 39 rfl) rfl ?_
      refine x_getRc (tk K_X5_drawHalves 40 rfl) f_X5_153 rfl (CuS.o hT1) (CuS.r0 hT1) ?_
      refine x_iload_n (tk K_X5_drawHalves 41 rfl) rfl rfl ?_
      refine x_iconst (tk K_X5_drawHalves 42 rfl) ic_1 ?_
      refine x_iload_n (tk K_X5_drawHalves 43 rfl) rfl rfl ?_
      refine x_isub (tk K_X5_drawHalves 44 rfl) ?_
      refine x_aload_n (tk K_X5_drawHalves 45 rfl) rfl rfl ?_
      refine x_getI (tk K_X5_drawHalves 46 rfl) f_X5_31 rfl (MiS.o hT0) ?_
      refine x_callV0 (As := [vR _, vR _, vI _, vI _, vI _]) (S := []) (tk K_X5_drawHalves 47 rfl) mk_X5_169 mo_X2_join (JoS.o (MiS.k0 hT0)) rfl rfl (Nat.le_of_ble_eq_true rfl) hd h (fun r M2 hq => ?_)
      obtain ⟨x2, rfl, hE, h⟩ := hq
      have hT2 := MiS.ext hT0 hE
      have hT3 := CuS.ext hT1 hE
      have hT4 := JoS.ext (MiS.k0 hT0) hE
      have hT5 := hE.1 _ _ _ (CuS.k0 hT1)
      refine x_if_ne (t := 93) (tk K_X5_drawHalves 48 rfl) rfl (fun hc => ?_) (fun hc => ?_)
      · have h := h.1 hc
        refine x_iload (tk K_X5_drawHalves 50 rfl) rfl ?_
        refine x_iconst (tk K_X5_drawHalves 51 rfl) ic_m1 ?_
        refine x_icmp_eq (t := 115) (tk K_X5_drawHalves 52 rfl) rfl (fun hc => ?_) (fun hc => ?_)
        · have h := h.1 hc
          refine x_msk [true, false, true, true, false, false, true, true] ?_
          exact h
        · have h := h.2 hc
          refine x_iload_n (tk K_X5_drawHalves 53 rfl) rfl rfl ?_
          refine x_aload_n (tk K_X5_drawHalves 54 rfl) rfl rfl ?_
          refine x_getRc (tk K_X5_drawHalves 55 rfl) f_X5_37 rfl (MiS.o hT2) (MiS.r0 hT2) ?_
          refine x_getI (tk K_X5_drawHalves 56 rfl) f_X5_175 rfl (JoS.o (MiS.k0 hT2)) ?_
          refine x_iload (tk K_X5_drawHalves 57 rfl) rfl ?_
          refine x_callS0 (As := [vI _, vI _, vI _]) (S := []) (tk K_X5_drawHalves 58 rfl) mk_X5_156 mo_X5_prefers rfl rfl (Nat.le_of_ble_eq_true rfl) hd h (fun r M3 hq => ?_)
          obtain ⟨x3, rfl, hE, h⟩ := hq
          have hT6 := MiS.ext hT2 hE
          have hT7 := CuS.ext hT3 hE
          have hT8 := JoS.ext (MiS.k0 hT2) hE
          have hT9 := hE.1 _ _ _ hT5
          refine x_if_eq (t := 132) (tk K_X5_drawHalves 59 rfl) rfl (fun hc => ?_) (fun hc => ?_)
          · have h := h.1 hc
            refine x_iincW (L' := [some (vR _), none, some (vI _), some (vI _), some (vI _), some (vI _), some (vR _), some (vI _)]) (tk K_X5_drawHalves 68 rfl) rfl ic_1 rfl (Nat.le_of_ble_eq_true rfl) rfl ?_
            refine x_goto (t := 48) (tk K_X5_drawHalves 69 rfl) rfl ?_
            exact h
          · have h := h.2 hc
            refine x_msk [true, false, true, true, false, false, true, true] ?_
            exact h
      · have h := h.2 hc
        refine x_goto (t := 132) (tk K_X5_drawHalves 49 rfl) rfl ?_
        refine x_iincW (L' := [some (vR _), none, some (vI _), some (vI _), some (vI _), some (vI _), some (vR _), some (vI _)]) (tk K_X5_drawHalves 68 rfl) rfl ic_1 rfl (Nat.le_of_ble_eq_true rfl) rfl ?_
        refine x_goto (t := 48) (tk K_X5_drawHalves 69 rfl) rfl ?_
        exact h

theorem b_X5_drawHalves_115 {X : Cx} {d kc ns : Nat} {M : Mem} {Q : Option AV → Mem → Prop} {l0 : Nat} {l2 : Int32} {l3 : Int32} {l6 : Nat} {l7 : Int32} (hS : MiS M l0) (hd : 1 ≤ d)
    (h : ∀ x1 : Int32, x1 = (mI M 35 7) → CuS M l6 ∧ Cl X (d - 1) 0 0 m_X0_number [vR l6, vI (nI 3)] M (fun r M1 => ∃ x2 : Int32, r = some (vI x2) ∧ Ext M M1 ∧ WA X d kc ns m_X5_drawHalves 48 [some (vR l0), none, some (vI l2), some (vI l3), some (vI x1), some (vI x2), some (vR l6), some (vI (l7 + (nI 1)))] [] M1 Q)) :
    WA X d kc ns m_X5_drawHalves 115 [some (vR l0), none, some (vI l2), some (vI l3), none, none, some (vR l6), some (vI l7)] [] M Q := by
  refine x_aload_n (tk K_X5_drawHalves 60 rfl) rfl rfl ?_
  refine x_getRc (tk K_X5_drawHalves 61 rfl) f_X5_37 rfl (MiS.o hS) (MiS.r0 hS) ?_
  refine x_getI (tk K_X5_drawHalves 62 rfl) f_X5_175 rfl (JoS.o (MiS.k0 hS)) ?_
  have h := h _ rfl
  refine x_istore (L' := [some (vR _), none, some (vI _), some (vI _), some (vI _), none, some (vR _), some (vI _)]) (tk K_X5_drawHalves 63 rfl) rfl (Nat.le_of_ble_eq_true rfl) rfl ?_
  refine x_aload (tk K_X5_drawHalves 64 rfl) rfl ?_
  refine x_iconst (tk K_X5_drawHalves 65 rfl) ic_3 ?_
  have hS_3 := h.1
  have h := h.2
  refine x_callV0 (As := [vI _]) (S := []) (tk K_X5_drawHalves 66 rfl) mk_X5_160 mo_X0_number (CuS.o hS_3) rfl rfl (Nat.le_of_ble_eq_true rfl) hd h (fun r M1 hq => ?_)
  obtain ⟨x2, rfl, hE, h⟩ := hq
  have hT0 := MiS.ext hS hE
  have hT1 := JoS.ext (MiS.k0 hS) hE
  have hT2 := CuS.ext hS_3 hE
  refine x_istore (L' := [some (vR _), none, some (vI _), some (vI _), some (vI _), some (vI _), some (vR _), some (vI _)]) (tk K_X5_drawHalves 67 rfl) rfl (Nat.le_of_ble_eq_true rfl) rfl ?_
  refine x_iincW (L' := [some (vR _), none, some (vI _), some (vI _), some (vI _), some (vI _), some (vR _), some (vI _)]) (tk K_X5_drawHalves 68 rfl) rfl ic_1 rfl (Nat.le_of_ble_eq_true rfl) rfl ?_
  refine x_goto (t := 48) (tk K_X5_drawHalves 69 rfl) rfl ?_
  exact h

theorem b_X5_drawHalves_138 {X : Cx} {d kc ns : Nat} {M : Mem} {Q : Option AV → Mem → Prop} {l0 : Nat} {l4 : Int32} {l5 : Int32} (hS : MiS M l0)
    (h : ∀ M1 : Mem, M1 = sI M l0 9 l5 → Q (some (vI l4)) M1) :
    WA X d kc ns m_X5_drawHalves 138 [some (vR l0), none, none, none, some (vI l4), some (vI l5), none, none] [] M Q := by
  refine x_aload_n (tk K_X5_drawHalves 70 rfl) rfl rfl ?_
  refine x_iload (tk K_X5_drawHalves 71 rfl) rfl ?_
  have h := h _ rfl
  refine x_putI (tk K_X5_drawHalves 72 rfl) f_X5_34 rfl (Or.inl rfl) (MiS.o hS) ?_
  refine x_iload (tk K_X5_drawHalves 73 rfl) rfl ?_
  exact x_ireturn (tk K_X5_drawHalves 74 rfl) rfl rfl h

theorem e_X5_drawHalves {X : Cx} {d kc ns : Nat} {M : Mem} {Q : Option AV → Mem → Prop} {a0 : Nat} {a1 : Int32} {a2 : Int32} (h : WA X d kc ns m_X5_drawHalves 0 [some (vR a0), some (vI a1), some (vI a2), none, none, none, none, none] [] M Q) : Cl X d kc ns m_X5_drawHalves [vR a0, vI a1, vI a2] M Q := Cl.intro (k := 5) (by decide) rfl rfl h

-- TwoPencils$Mind.joinHalves([II)I
theorem b_X5_joinHalves_0 {X : Cx} {d kc ns : Nat} {M : Mem} {Q : Option AV → Mem → Prop} {l0 : Nat} {l1 : Nat} {l2 : Int32} (hS : MiS M l0) (hd : 1 ≤ d)
    (h : Cl X (d - 1) 0 0 m_X5_drawer [vR l0, vI l2] M (fun r M1 => ∃ x1 : Int32, r = some (vI x1) ∧ Ext M M1 ∧ Cl X (d - 1) 0 0 m_X2_join [vR 35, vR (mR M l0 5), vR l1, vI l2, vI ((nI 1) - x1), vI (mI M1 l0 8)] M1 (fun r M2 => ∃ x2 : Int32, r = some (vI x2) ∧ Ext M1 M2 ∧ ∀ M3 : Mem, M3 = sI M2 l0 9 (mI M2 35 6) → Q (some (vI (mI M3 35 7))) M3))) :
    WA X d kc ns m_X5_joinHalves 0 [some (vR l0), some (vR l1), some (vI l2)] [] M Q := by
  refine x_aload_n (tk K_X5_joinHalves 0 rfl) rfl rfl ?_
  refine x_getRc (tk K_X5_joinHalves 1 rfl) f_X5_37 rfl (MiS.o hS) (MiS.r0 hS) ?_
  refine x_aload_n (tk K_X5_joinHalves 2 rfl) rfl rfl ?_
  refine x_getR (tk K_X5_joinHalves 3 rfl) f_X5_41 rfl (MiS.o hS) ?_
  refine x_aload_n (tk K_X5_joinHalves 4 rfl) rfl rfl ?_
  refine x_iload_n (tk K_X5_joinHalves 5 rfl) rfl rfl ?_
  refine x_iconst (tk K_X5_joinHalves 6 rfl) ic_1 ?_
  refine x_aload_n (tk K_X5_joinHalves 7 rfl) rfl rfl ?_
  refine x_iload_n (tk K_X5_joinHalves 8 rfl) rfl rfl ?_
  refine x_callV0 (As := [vI _]) (S := [vI _, vI _, vR _, vR _, vR _]) (tk K_X5_joinHalves 9 rfl) mk_X5_94 mo_X5_drawer (MiS.o hS) rfl rfl (Nat.le_of_ble_eq_true rfl) hd h (fun r M1 hq => ?_)
  obtain ⟨x1, rfl, hE, h⟩ := hq
  have hT0 := MiS.ext hS hE
  have hT1 := JoS.ext (MiS.k0 hS) hE
  refine x_isub (tk K_X5_joinHalves 10 rfl) ?_
  refine x_aload_n (tk K_X5_joinHalves 11 rfl) rfl rfl ?_
  refine x_getI (tk K_X5_joinHalves 12 rfl) f_X5_31 rfl (MiS.o hT0) ?_
  refine x_callV0 (As := [vR _, vR _, vI _, vI _, vI _]) (S := []) (tk K_X5_joinHalves 13 rfl) mk_X5_169 mo_X2_join (JoS.o hT1) rfl rfl (Nat.le_of_ble_eq_true rfl) hd h (fun r M2 hq => ?_)
  obtain ⟨x2, rfl, hE, h⟩ := hq
  have hT2 := MiS.ext hT0 hE
  have hT3 := JoS.ext hT1 hE
  refine x_pop (tk K_X5_joinHalves 14 rfl) rfl ?_
  refine x_aload_n (tk K_X5_joinHalves 15 rfl) rfl rfl ?_
  refine x_aload_n (tk K_X5_joinHalves 16 rfl) rfl rfl ?_
  refine x_getRc (tk K_X5_joinHalves 17 rfl) f_X5_37 rfl (MiS.o hT2) (MiS.r0 hT2) ?_
  refine x_getI (tk K_X5_joinHalves 18 rfl) f_X5_177 rfl (JoS.o (MiS.k0 hT2)) ?_
  have h := h _ rfl
  refine x_putI (tk K_X5_joinHalves 19 rfl) f_X5_34 rfl (Or.inl rfl) (MiS.o hT2) ?_
  refine x_aload_n (tk K_X5_joinHalves 20 rfl) rfl rfl ?_
  refine x_getRc (tk K_X5_joinHalves 21 rfl) f_X5_37 rfl (MiS.o hT2) (MiS.r0 hT2) ?_
  refine x_getI (tk K_X5_joinHalves 22 rfl) f_X5_175 rfl (JoS.o (MiS.k0 hT2)) ?_
  exact x_ireturn (tk K_X5_joinHalves 23 rfl) rfl rfl h

theorem e_X5_joinHalves {X : Cx} {d kc ns : Nat} {M : Mem} {Q : Option AV → Mem → Prop} {a0 : Nat} {a1 : Nat} {a2 : Int32} (h : WA X d kc ns m_X5_joinHalves 0 [some (vR a0), some (vR a1), some (vI a2)] [] M Q) : Cl X d kc ns m_X5_joinHalves [vR a0, vR a1, vI a2] M Q := Cl.intro (k := 0) (by decide) rfl rfl h

-- TwoPencils$Mind.drawFirst(II)I
theorem b_X5_drawFirst_0 {X : Cx} {d kc ns : Nat} {M : Mem} {Q : Option AV → Mem → Prop} {l0 : Nat} {l1 : Int32} {l2 : Int32} (hS : MiS M l0) (hd : 1 ≤ d)
    (h : Cl X (d - 1) 0 0 m_X5_drawer [vR l0, vI l2] M (fun r M1 => ∃ x1 : Int32, r = some (vI x1) ∧ Ext M M1 ∧ Cl X (d - 1) 0 0 m_X5_cutsOf [vR l0, vI l1, vI l2] M1 (fun r M2 => ∃ x2 : Nat, r = some (vR x2) ∧ Ext M1 M2 ∧ WA X d kc ns m_X5_drawFirst 23 [some (vR l0), some (vI l1), some (vI l2), some (vI x1), some (vI (nI 0)), some (vI (nI 0)), some (vI (nI 0)), some (vR x2), none] [] M2 Q))) :
    WA X d kc ns m_X5_drawFirst 0 [some (vR l0), some (vI l1), some (vI l2), none, none, none, none, none, none] [] M Q := by
  refine x_aload_n (tk K_X5_drawFirst 0 rfl) rfl rfl ?_
  refine x_iload_n (tk K_X5_drawFirst 1 rfl) rfl rfl ?_
  refine x_callV0 (As := [vI _]) (S := []) (tk K_X5_drawFirst 2 rfl) mk_X5_94 mo_X5_drawer (MiS.o hS) rfl rfl (Nat.le_of_ble_eq_true rfl) hd h (fun r M1 hq => ?_)
  obtain ⟨x1, rfl, hE, h⟩ := hq
  have hT0 := MiS.ext hS hE
  refine x_istore_n (L' := [some (vR _), some (vI _), some (vI _), some (vI _), none, none, none, none, none]) (tk K_X5_drawFirst 3 rfl) rfl rfl (Nat.le_of_ble_eq_true rfl) rfl ?_
  refine x_iconst (tk K_X5_drawFirst 4 rfl) ic_0 ?_
  refine x_istore (L' := [some (vR _), some (vI _), some (vI _), some (vI _), some (vI _), none, none, none, none]) (tk K_X5_drawFirst 5 rfl) rfl (Nat.le_of_ble_eq_true rfl) rfl ?_
  refine x_iconst (tk K_X5_drawFirst 6 rfl) ic_0 ?_
  refine x_istore (L' := [some (vR _), some (vI _), some (vI _), some (vI _), some (vI _), some (vI _), none, none, none]) (tk K_X5_drawFirst 7 rfl) rfl (Nat.le_of_ble_eq_true rfl) rfl ?_
  refine x_iconst (tk K_X5_drawFirst 8 rfl) ic_0 ?_
  refine x_istore (L' := [some (vR _), some (vI _), some (vI _), some (vI _), some (vI _), some (vI _), some (vI _), none, none]) (tk K_X5_drawFirst 9 rfl) rfl (Nat.le_of_ble_eq_true rfl) rfl ?_
  refine x_aload_n (tk K_X5_drawFirst 10 rfl) rfl rfl ?_
  refine x_iload_n (tk K_X5_drawFirst 11 rfl) rfl rfl ?_
  refine x_iload_n (tk K_X5_drawFirst 12 rfl) rfl rfl ?_
  refine x_callV0 (As := [vI _, vI _]) (S := []) (tk K_X5_drawFirst 13 rfl) mk_X5_145 mo_X5_cutsOf (MiS.o hT0) rfl rfl (Nat.le_of_ble_eq_true rfl) hd h (fun r M2 hq => ?_)
  obtain ⟨x2, rfl, hE, h⟩ := hq
  have hT1 := MiS.ext hT0 hE
  refine x_astore (L' := [some (vR _), some (vI _), some (vI _), some (vI _), some (vI _), some (vI _), some (vI _), some (vR _), none]) (tk K_X5_drawFirst 14 rfl) rfl (Nat.le_of_ble_eq_true rfl) rfl ?_
  exact h

theorem b_X5_drawFirst_23 {X : Cx} {d kc ns : Nat} {M : Mem} {Q : Option AV → Mem → Prop} {l0 : Nat} {l1 : Int32} {l2 : Int32} {l3 : Int32} {l4 : Int32} {l5 : Int32} {l6 : Int32} {l7 : Nat} (hS : MiS M l0) (hd : 1 ≤ d)
    (h : (((nI 1000000) ≤ l6 → WA X d kc ns m_X5_drawFirst 122 [some (vR l0), some (vI l1), some (vI l2), none, none, some (vI l5), none, none, none] [] M Q) ∧ (¬ (nI 1000000) ≤ l6 → CuS M l7 ∧ Cl X (d - 1) 0 0 m_X0_next [vR l7] M (fun r M1 => ∃ x1 : Int32, r = some (vI x1) ∧ Ext M M1 ∧ ((x1 = nI 0 → WA X d kc ns m_X5_drawFirst 122 [some (vR l0), some (vI l1), some (vI l2), none, none, some (vI l5), none, none, none] [] M1 Q) ∧ (¬ x1 = nI 0 → LaS M1 (mR M1 l0 5) ∧ Cl X (d - 1) 0 0 m_X3_worthOfAll [vR (mR M1 l0 5), vR (l7 + 1), vI l2, vI (mI M1 l0 8)] M1 (fun r M2 => ∃ x2 : Int32, r = some (vI x2) ∧ Ext M1 M2 ∧ ((¬ l6 = nI 0 → Cl X (d - 1) 0 0 m_X5_prefers [vI l3, vI x2, vI l4] M2 (fun r M3 => ∃ x3 : Int32, r = some (vI x3) ∧ Ext M2 M3 ∧ ((x3 = nI 0 → ((l6 = (nI 1) → WA X d kc ns m_X5_drawFirst 23 [some (vR l0), some (vI l1), some (vI l2), some (vI l3), some (vI l4), some (vI x2), some (vI (l6 + (nI 1))), some (vR l7), none] [] M3 Q) ∧ (¬ l6 = (nI 1) → Cl X (d - 1) 0 0 m_X5_prefers [vI l3, vI x2, vI l5] M3 (fun r M4 => ∃ x4 : Int32, r = some (vI x4) ∧ Ext M3 M4 ∧ ((x4 = nI 0 → WA X d kc ns m_X5_drawFirst 23 [some (vR l0), some (vI l1), some (vI l2), some (vI l3), some (vI l4), some (vI l5), some (vI (l6 + (nI 1))), some (vR l7), none] [] M4 Q) ∧ (¬ x4 = nI 0 → WA X d kc ns m_X5_drawFirst 23 [some (vR l0), some (vI l1), some (vI l2), some (vI l3), some (vI l4), some (vI x2), some (vI (l6 + (nI 1))), some (vR l7), none] [] M4 Q)))))) ∧ (¬ x3 = nI 0 → WA X d kc ns m_X5_drawFirst 23 [some (vR l0), some (vI l1), some (vI l2), some (vI l3), some (vI x2), some (vI l4), some (vI (l6 + (nI 1))), some (vR l7), none] [] M3 Q)))) ∧ (l6 = nI 0 → WA X d kc ns m_X5_drawFirst 23 [some (vR l0), some (vI l1), some (vI l2), some (vI l3), some (vI x2), some (vI x2), some (vI (l6 + (nI 1))), some (vR l7), none] [] M2 Q))))))))) :
    WA X d kc ns m_X5_drawFirst 23 [some (vR l0), some (vI l1), some (vI l2), some (vI l3), some (vI l4), some (vI l5), some (vI l6), some (vR l7), none] [] M Q := by
  refine x_iload (tk K_X5_drawFirst 15 rfl) rfl ?_
  refine x_ldc (tk K_X5_drawFirst 16 rfl) kc_X5_149 ?_
  refine x_icmp_ge (t := 122) (tk K_X5_drawFirst 17 rfl) rfl (fun hc => ?_) (fun hc => ?_)
  · have h := h.1 hc
    refine x_msk [true, true, true, false, false, true, false, false, false] ?_
    exact h
  · have h := h.2 hc
    refine x_aload (tk K_X5_drawFirst 18 rfl) rfl ?_
    have hS_2 := h.1
    have h := h.2
    refine x_callV0 (As := []) (S := []) (tk K_X5_drawFirst 19 rfl) mk_X5_150 mo_X0_next (CuS.o hS_2) rfl rfl (Nat.le_of_ble_eq_true rfl) hd h (fun r M1 hq => ?_)
    obtain ⟨x1, rfl, hE, h⟩ := hq
    have hT0 := MiS.ext hS hE
    have hT1 := CuS.ext hS_2 hE
    refine x_if_eq (t := 122) (tk K_X5_drawFirst 20 rfl) rfl (fun hc => ?_) (fun hc => ?_)
    · have h := h.1 hc
      refine x_msk [true, true, true, false, false, true, false, false, false] ?_
      exact h
    · have h := h.2 hc
      refine x_aload_n (tk K_X5_drawFirst 21 rfl) rfl rfl ?_
      refine x_getR (tk K_X5_drawFirst 22 rfl) f_X5_41 rfl (MiS.o hT0) ?_
      refine x_aload (tk K_X5_drawFirst 23 rfl) rfl ?_
      refine x_getRc (tk K_X5_drawFirst 24 rfl) f_X5_153 rfl (CuS.o hT1) (CuS.r0 hT1) ?_
      refine x_iload_n (tk K_X5_drawFirst 25 rfl) rfl rfl ?_
      refine x_aload_n (tk K_X5_drawFirst 26 rfl) rfl rfl ?_
      refine x_getI (tk K_X5_drawFirst 27 rfl) f_X5_31 rfl (MiS.o hT0) ?_
      have hS_23 := h.1
      have h := h.2
      refine x_callV0 (As := [vR _, vI _, vI _]) (S := []) (tk K_X5_drawFirst 28 rfl) mk_X5_74 mo_X3_worthOfAll (LaS.o hS_23) rfl rfl (Nat.le_of_ble_eq_true rfl) hd h (fun r M2 hq => ?_)
      obtain ⟨x2, rfl, hE, h⟩ := hq
      have hT2 := MiS.ext hT0 hE
      have hT3 := CuS.ext hT1 hE
      have hT4 := LaS.ext hS_23 hE
      have hT5 := hE.1 _ _ _ (CuS.k0 hT1)
      refine x_istore (L' := [some (vR _), some (vI _), some (vI _), some (vI _), some (vI _), some (vI _), some (vI _), some (vR _), some (vI _)]) (tk K_X5_drawFirst 29 rfl) rfl (Nat.le_of_ble_eq_true rfl) rfl ?_
      refine x_iload (tk K_X5_drawFirst 30 rfl) rfl ?_
      refine x_if_ne (t := 73) (tk K_X5_drawFirst 31 rfl) rfl (fun hc => ?_) (fun hc => ?_)
      · have h := h.1 hc
        refine x_iload_n (tk K_X5_drawFirst 37 rfl) rfl rfl ?_
        refine x_iload (tk K_X5_drawFirst 38 rfl) rfl ?_
        refine x_iload (tk K_X5_drawFirst 39 rfl) rfl ?_
        refine x_callS0 (As := [vI _, vI _, vI _]) (S := []) (tk K_X5_drawFirst 40 rfl) mk_X5_156 mo_X5_prefers rfl rfl (Nat.le_of_ble_eq_true rfl) hd h (fun r M3 hq => ?_)
        obtain ⟨x3, rfl, hE, h⟩ := hq
        have hT6 := MiS.ext hT2 hE
        have hT7 := CuS.ext hT3 hE
        have hT8 := LaS.ext hT4 hE
        have hT9 := hE.1 _ _ _ hT5
        refine x_if_eq (t := 95) (tk K_X5_drawFirst 41 rfl) rfl (fun hc => ?_) (fun hc => ?_)
        · have h := h.1 hc
          refine x_iload (tk K_X5_drawFirst 47 rfl) rfl ?_
          refine x_iconst (tk K_X5_drawFirst 48 rfl) ic_1 ?_
          refine x_icmp_eq (t := 112) (tk K_X5_drawFirst 49 rfl) rfl (fun hc => ?_) (fun hc => ?_)
          · have h := h.1 hc
            refine x_iload (tk K_X5_drawFirst 55 rfl) rfl ?_
            refine x_istore (L' := [some (vR _), some (vI _), some (vI _), some (vI _), some (vI _), some (vI _), some (vI _), some (vR _), some (vI _)]) (tk K_X5_drawFirst 56 rfl) rfl (Nat.le_of_ble_eq_true rfl) rfl ?_
            refine x_iincW (L' := [some (vR _), some (vI _), some (vI _), some (vI _), some (vI _), some (vI _), some (vI _), some (vR _), some (vI _)]) (tk K_X5_drawFirst 57 rfl) rfl ic_1 rfl (Nat.le_of_ble_eq_true rfl) rfl ?_
            refine x_goto (t := 23) (tk K_X5_drawFirst 58 rfl) rfl ?_
            refine x_msk [true, true, true, true, true, true, true, true, false] ?_
            exact h
          · have h := h.2 hc
            refine x_iload_n (tk K_X5_drawFirst 50 rfl) rfl rfl ?_
            refine x_iload (tk K_X5_drawFirst 51 rfl) rfl ?_
            refine x_iload (tk K_X5_drawFirst 52 rfl) rfl ?_
            refine x_callS0 (As := [vI _, vI _, vI _]) (S := []) (tk K_X5_drawFirst 53 rfl) mk_X5_156 mo_X5_prefers rfl rfl (Nat.le_of_ble_eq_true rfl) hd h (fun r M4 hq => ?_)
            obtain ⟨x4, rfl, hE, h⟩ := hq
            have hT10 := MiS.ext hT6 hE
            have hT11 := CuS.ext hT7 hE
            have hT12 := LaS.ext hT8 hE
            have hT13 := hE.1 _ _ _ hT9
            refine x_if_eq (t := 116) (tk K_X5_drawFirst 54 rfl) rfl (fun hc => ?_) (fun hc => ?_)
            · have h := h.1 hc
              refine x_iincW (L' := [some (vR _), some (vI _), some (vI _), some (vI _), some (vI _), some (vI _), some (vI _), some (vR _), some (vI _)]) (tk K_X5_drawFirst 57 rfl) rfl ic_1 rfl (Nat.le_of_ble_eq_true rfl) rfl ?_
              refine x_goto (t := 23) (tk K_X5_drawFirst 58 rfl) rfl ?_
              refine x_msk [true, true, true, true, true, true, true, true, false] ?_
              exact h
            · have h := h.2 hc
              refine x_iload (tk K_X5_drawFirst 55 rfl) rfl ?_
              refine x_istore (L' := [some (vR _), some (vI _), some (vI _), some (vI _), some (vI _), some (vI _), some (vI _), some (vR _), some (vI _)]) (tk K_X5_drawFirst 56 rfl) rfl (Nat.le_of_ble_eq_true rfl) rfl ?_
              refine x_iincW (L' := [some (vR _), some (vI _), some (vI _), some (vI _), some (vI _), some (vI _), some (vI _), some (vR _), some (vI _)]) (tk K_X5_drawFirst 57 rfl) rfl ic_1 rfl (Nat.le_of_ble_eq_true rfl) rfl ?_
              refine x_goto (t := 23) (tk K_X5_drawFirst 58 rfl) rfl ?_
              refine x_msk [true, true, true, true, true, true, true, true, false] ?_
              exact h
        · have h := h.2 hc
          refine x_iload (tk K_X5_drawFirst 42 rfl) rfl ?_
          refine x_istore (L' := [some (vR _), some (vI _), some (vI _), some (vI _), some (vI _), some (vI _), some (vI _), some (vR _), some (vI _)]) (tk K_X5_drawFirst 43 rfl) rfl (Nat.le_of_ble_eq_true rfl) rfl ?_
          refine x_iload (tk K_X5_drawFirst 44 rfl) rfl ?_
          refine x_istore (L' := [some (vR _), some (vI _), some (vI _), some (vI _), some (vI _), some (vI _), some (vI _), some (vR _), some (vI _)]) (tk K_X5_drawFirst 45 rfl) rfl (Nat.le_of_ble_eq_true rfl) rfl ?_
          refine x_goto (t := 116) (tk K_X5_drawFirst 46 rfl) rfl ?_
          refine x_iincW (L' := [some (vR _), some (vI _), some (vI _), some (vI _), some (vI _), some (vI _), some (vI _), some (vR _), some (vI _)]) (tk K_X5_drawFirst 57 rfl) rfl ic_1 rfl (Nat.le_of_ble_eq_true rfl) rfl ?_
          refine x_goto (t := 23) (tk K_X5_drawFirst 58 rfl) rfl ?_
          refine x_msk [true, true, true, true, true, true, true, true, false] ?_
          exact h
      · have h := h.2 hc
        refine x_iload (tk K_X5_drawFirst 32 rfl) rfl ?_
        refine x_istore (L' := [some (vR _), some (vI _), some (vI _), some (vI _), some (vI _), some (vI _), some (vI _), some (vR _), some (vI _)]) (tk K_X5_drawFirst 33 rfl) rfl (Nat.le_of_ble_eq_true rfl) rfl ?_
        refine x_iload (tk K_X5_drawFirst 34 rfl) rfl ?_
        refine x_istore (L' := [some (vR _), some (vI _), some (vI _), some (vI _), some (vI _), some (vI _), some (vI _), some (vR _), some (vI _)]) (tk K_X5_drawFirst 35 rfl) rfl (Nat.le_of_ble_eq_true rfl) rfl ?_
        refine x_goto (t := 116) (tk K_X5_drawFirst 36 rfl) rfl ?_
        refine x_iincW (L' := [some (vR _), some (vI _), some (vI _), some (vI _), some (vI _), some (vI _), some (vI _), some (vR _), some (vI _)]) (tk K_X5_drawFirst 57 rfl) rfl ic_1 rfl (Nat.le_of_ble_eq_true rfl) rfl ?_
        refine x_goto (t := 23) (tk K_X5_drawFirst 58 rfl) rfl ?_
        refine x_msk [true, true, true, true, true, true, true, true, false] ?_
        exact h

theorem b_X5_drawFirst_122 {X : Cx} {d kc ns : Nat} {M : Mem} {Q : Option AV → Mem → Prop} {l0 : Nat} {l1 : Int32} {l2 : Int32} {l5 : Int32} (hS : MiS M l0) (hd : 1 ≤ d)
    (h : Cl X (d - 1) 0 0 m_X5_lowestWorth [vR l0, vI l1, vI l2, vI l5] M (fun r M1 => ∃ x1 : Int32, r = some (vI x1) ∧ Ext M M1 ∧ ∀ M2 : Mem, M2 = sI M1 l0 9 x1 → Q (some (vI l5)) M2)) :
    WA X d kc ns m_X5_drawFirst 122 [some (vR l0), some (vI l1), some (vI l2), none, none, some (vI l5), none, none, none] [] M Q := by
  refine x_aload_n (tk K_X5_drawFirst 59 rfl) rfl rfl ?_
  refine x_aload_n (tk K_X5_drawFirst 60 rfl) rfl rfl ?_
  refine x_iload_n (tk K_X5_drawFirst 61 rfl) rfl rfl ?_
  refine x_iload_n (tk K_X5_drawFirst 62 rfl) rfl rfl ?_
  refine x_iload (tk K_X5_drawFirst 63 rfl) rfl ?_
  refine x_callV0 (As := [vI _, vI _, vI _]) (S := [vR _]) (tk K_X5_drawFirst 64 rfl) mk_X5_179 mo_X5_lowestWorth (MiS.o hS) rfl rfl (Nat.le_of_ble_eq_true rfl) hd h (fun r M1 hq => ?_)
  obtain ⟨x1, rfl, hE, h⟩ := hq
  have hT0 := MiS.ext hS hE
  have h := h _ rfl
  refine x_putI (tk K_X5_drawFirst 65 rfl) f_X5_34 rfl (Or.inl rfl) (MiS.o hT0) ?_
  refine x_iload (tk K_X5_drawFirst 66 rfl) rfl ?_
  exact x_ireturn (tk K_X5_drawFirst 67 rfl) rfl rfl h

theorem e_X5_drawFirst {X : Cx} {d kc ns : Nat} {M : Mem} {Q : Option AV → Mem → Prop} {a0 : Nat} {a1 : Int32} {a2 : Int32} (h : WA X d kc ns m_X5_drawFirst 0 [some (vR a0), some (vI a1), some (vI a2), none, none, none, none, none, none] [] M Q) : Cl X d kc ns m_X5_drawFirst [vR a0, vI a1, vI a2] M Q := Cl.intro (k := 6) (by decide) rfl rfl h

-- TwoPencils$Mind.lowestWorth(III)I
theorem b_X5_lowestWorth_0 {X : Cx} {d kc ns : Nat} {M : Mem} {Q : Option AV → Mem → Prop} {l0 : Nat} {l1 : Int32} {l2 : Int32} {l3 : Int32} (hS : MiS M l0) (hd : 1 ≤ d)
    (h : Cl X (d - 1) 0 0 m_X5_drawer [vR l0, vI l2] M (fun r M1 => ∃ x1 : Int32, r = some (vI x1) ∧ Ext M M1 ∧ Cl X (d - 1) 0 0 m_X5_cutsOf [vR l0, vI l1, vI l2] M1 (fun r M2 => ∃ x2 : Nat, r = some (vR x2) ∧ Ext M1 M2 ∧ WA X d kc ns m_X5_lowestWorth 18 [some (vR l0), none, some (vI l2), some (vI l3), some (vI x1), some (vR x2), some (vI (nI 0))] [] M2 Q))) :
    WA X d kc ns m_X5_lowestWorth 0 [some (vR l0), some (vI l1), some (vI l2), some (vI l3), none, none, none] [] M Q := by
  refine x_aload_n (tk K_X5_lowestWorth 0 rfl) rfl rfl ?_
  refine x_iload_n (tk K_X5_lowestWorth 1 rfl) rfl rfl ?_
  refine x_callV0 (As := [vI _]) (S := []) (tk K_X5_lowestWorth 2 rfl) mk_X5_94 mo_X5_drawer (MiS.o hS) rfl rfl (Nat.le_of_ble_eq_true rfl) hd h (fun r M1 hq => ?_)
  obtain ⟨x1, rfl, hE, h⟩ := hq
  have hT0 := MiS.ext hS hE
  refine x_istore (L' := [some (vR _), some (vI _), some (vI _), some (vI _), some (vI _), none, none]) (tk K_X5_lowestWorth 3 rfl) rfl (Nat.le_of_ble_eq_true rfl) rfl ?_
  refine x_aload_n (tk K_X5_lowestWorth 4 rfl) rfl rfl ?_
  refine x_iload_n (tk K_X5_lowestWorth 5 rfl) rfl rfl ?_
  refine x_iload_n (tk K_X5_lowestWorth 6 rfl) rfl rfl ?_
  refine x_callV0 (As := [vI _, vI _]) (S := []) (tk K_X5_lowestWorth 7 rfl) mk_X5_145 mo_X5_cutsOf (MiS.o hT0) rfl rfl (Nat.le_of_ble_eq_true rfl) hd h (fun r M2 hq => ?_)
  obtain ⟨x2, rfl, hE, h⟩ := hq
  have hT1 := MiS.ext hT0 hE
  refine x_astore (L' := [some (vR _), some (vI _), some (vI _), some (vI _), some (vI _), some (vR _), none]) (tk K_X5_lowestWorth 8 rfl) rfl (Nat.le_of_ble_eq_true rfl) rfl ?_
  refine x_iconst (tk K_X5_lowestWorth 9 rfl) ic_0 ?_
  refine x_istore (L' := [some (vR _), some (vI _), some (vI _), some (vI _), some (vI _), some (vR _), some (vI _)]) (tk K_X5_lowestWorth 10 rfl) rfl (Nat.le_of_ble_eq_true rfl) rfl ?_
  refine x_msk [true, false, true, true, true, true, true] ?_
  exact h

theorem b_X5_lowestWorth_18 {X : Cx} {d kc ns : Nat} {M : Mem} {Q : Option AV → Mem → Prop} {l0 : Nat} {l2 : Int32} {l3 : Int32} {l4 : Int32} {l5 : Nat} {l6 : Int32} (hS : MiS M l0) (hd : 1 ≤ d)
    (h : (((nI 1000000) ≤ l6 → Q (some (vI (-1))) M) ∧ (¬ (nI 1000000) ≤ l6 → CuS M l5 ∧ Cl X (d - 1) 0 0 m_X0_next [vR l5] M (fun r M1 => ∃ x1 : Int32, r = some (vI x1) ∧ Ext M M1 ∧ ((x1 = nI 0 → Q (some (vI (-1))) M1) ∧ (¬ x1 = nI 0 → LaS M1 (mR M1 l0 5) ∧ Cl X (d - 1) 0 0 m_X3_worthOfAll [vR (mR M1 l0 5), vR (l5 + 1), vI l2, vI (mI M1 l0 8)] M1 (fun r M2 => ∃ x2 : Int32, r = some (vI x2) ∧ Ext M1 M2 ∧ Cl X (d - 1) 0 0 m_X5_prefers [vI l4, vI l3, vI x2] M2 (fun r M3 => ∃ x3 : Int32, r = some (vI x3) ∧ Ext M2 M3 ∧ ((¬ x3 = nI 0 → WA X d kc ns m_X5_lowestWorth 18 [some (vR l0), none, some (vI l2), some (vI l3), some (vI l4), some (vR l5), some (vI (l6 + (nI 1)))] [] M3 Q) ∧ (x3 = nI 0 → Cl X (d - 1) 0 0 m_X0_number [vR l5, vI (nI 2)] M3 (fun r M4 => ∃ x4 : Int32, r = some (vI x4) ∧ Ext M3 M4 ∧ Q (some (vI x4)) M4))))))))))) :
    WA X d kc ns m_X5_lowestWorth 18 [some (vR l0), none, some (vI l2), some (vI l3), some (vI l4), some (vR l5), some (vI l6)] [] M Q := by
  refine x_iload (tk K_X5_lowestWorth 11 rfl) rfl ?_
  refine x_ldc (tk K_X5_lowestWorth 12 rfl) kc_X5_149 ?_
  refine x_icmp_ge (t := 72) (tk K_X5_lowestWorth 13 rfl) rfl (fun hc => ?_) (fun hc => ?_)
  · have h := h.1 hc
    refine x_iconst (tk K_X5_lowestWorth 35 rfl) ic_m1 ?_
    exact x_ireturn (tk K_X5_lowestWorth 36 rfl) rfl rfl h
  · have h := h.2 hc
    refine x_aload (tk K_X5_lowestWorth 14 rfl) rfl ?_
    have hS_2 := h.1
    have h := h.2
    refine x_callV0 (As := []) (S := []) (tk K_X5_lowestWorth 15 rfl) mk_X5_150 mo_X0_next (CuS.o hS_2) rfl rfl (Nat.le_of_ble_eq_true rfl) hd h (fun r M1 hq => ?_)
    obtain ⟨x1, rfl, hE, h⟩ := hq
    have hT0 := MiS.ext hS hE
    have hT1 := CuS.ext hS_2 hE
    refine x_if_eq (t := 72) (tk K_X5_lowestWorth 16 rfl) rfl (fun hc => ?_) (fun hc => ?_)
    · have h := h.1 hc
      refine x_iconst (tk K_X5_lowestWorth 35 rfl) ic_m1 ?_
      exact x_ireturn (tk K_X5_lowestWorth 36 rfl) rfl rfl h
    · have h := h.2 hc
      refine x_iload (tk K_X5_lowestWorth 17 rfl) rfl ?_
      refine x_iload_n (tk K_X5_lowestWorth 18 rfl) rfl rfl ?_
      refine x_aload_n (tk K_X5_lowestWorth 19 rfl) rfl rfl ?_
      refine x_getR (tk K_X5_lowestWorth 20 rfl) f_X5_41 rfl (MiS.o hT0) ?_
      refine x_aload (tk K_X5_lowestWorth 21 rfl) rfl ?_
      refine x_getRc (tk K_X5_lowestWorth 22 rfl) f_X5_153 rfl (CuS.o hT1) (CuS.r0 hT1) ?_
      refine x_iload_n (tk K_X5_lowestWorth 23 rfl) rfl rfl ?_
      refine x_aload_n (tk K_X5_lowestWorth 24 rfl) rfl rfl ?_
      refine x_getI (tk K_X5_lowestWorth 25 rfl) f_X5_31 rfl (MiS.o hT0) ?_
      have hS_23 := h.1
      have h := h.2
      refine x_callV0 (As := [vR _, vI _, vI _]) (S := [vI _, vI _]) (tk K_X5_lowestWorth 26 rfl) mk_X5_74 mo_X3_worthOfAll (LaS.o hS_23) rfl rfl (Nat.le_of_ble_eq_true rfl) hd h (fun r M2 hq => ?_)
      obtain ⟨x2, rfl, hE, h⟩ := hq
      have hT2 := MiS.ext hT0 hE
      have hT3 := CuS.ext hT1 hE
      have hT4 := LaS.ext hS_23 hE
      have hT5 := hE.1 _ _ _ (CuS.k0 hT1)
      refine x_callS0 (As := [vI _, vI _, vI _]) (S := []) (tk K_X5_lowestWorth 27 rfl) mk_X5_156 mo_X5_prefers rfl rfl (Nat.le_of_ble_eq_true rfl) hd h (fun r M3 hq => ?_)
      obtain ⟨x3, rfl, hE, h⟩ := hq
      have hT6 := MiS.ext hT2 hE
      have hT7 := CuS.ext hT3 hE
      have hT8 := LaS.ext hT4 hE
      have hT9 := hE.1 _ _ _ hT5
      refine x_if_ne (t := 66) (tk K_X5_lowestWorth 28 rfl) rfl (fun hc => ?_) (fun hc => ?_)
      · have h := h.1 hc
        refine x_iincW (L' := [some (vR _), none, some (vI _), some (vI _), some (vI _), some (vR _), some (vI _)]) (tk K_X5_lowestWorth 33 rfl) rfl ic_1 rfl (Nat.le_of_ble_eq_true rfl) rfl ?_
        refine x_goto (t := 18) (tk K_X5_lowestWorth 34 rfl) rfl ?_
        exact h
      · have h := h.2 hc
        refine x_aload (tk K_X5_lowestWorth 29 rfl) rfl ?_
        refine x_iconst (tk K_X5_lowestWorth 30 rfl) ic_2 ?_
        refine x_callV0 (As := [vI _]) (S := []) (tk K_X5_lowestWorth 31 rfl) mk_X5_160 mo_X0_number (CuS.o hT7) rfl rfl (Nat.le_of_ble_eq_true rfl) hd h (fun r M4 hq => ?_)
        obtain ⟨x4, rfl, hE, h⟩ := hq
        have hT10 := MiS.ext hT6 hE
        have hT11 := CuS.ext hT7 hE
        have hT12 := LaS.ext hT8 hE
        have hT13 := hE.1 _ _ _ hT9
        exact x_ireturn (tk K_X5_lowestWorth 32 rfl) rfl rfl h

theorem e_X5_lowestWorth {X : Cx} {d kc ns : Nat} {M : Mem} {Q : Option AV → Mem → Prop} {a0 : Nat} {a1 : Int32} {a2 : Int32} {a3 : Int32} (h : WA X d kc ns m_X5_lowestWorth 0 [some (vR a0), some (vI a1), some (vI a2), some (vI a3), none, none, none] [] M Q) : Cl X d kc ns m_X5_lowestWorth [vR a0, vI a1, vI a2, vI a3] M Q := Cl.intro (k := 3) (by decide) rfl rfl h

-- TwoPencils$Mind.worthOfCut(ILTwoPencils$Game;)I
theorem b_X5_worthOfCut_0 {X : Cx} {d kc ns : Nat} {M : Mem} {Q : Option AV → Mem → Prop} {l0 : Nat} {l1 : Int32} {l2 : Nat} (hS : MiS M l0) (hd : 1 ≤ d)
    (h : GaS M l2 ∧ LaS M (mR M l0 5) ∧ Cl X (d - 1) 0 0 m_X3_split [vR (mR M l0 5), vI l1, vI (nI 2), vI (mI M l2 8), vI (mI M l2 9), vR (l0 + 4)] M (fun r M1 => ∃ x1 : Int32, r = some (vI x1) ∧ Ext M M1 ∧ ((¬ x1 = nI 0 → LaS M1 (mR M1 l0 5) ∧ Cl X (d - 1) 0 0 m_X3_worthOfAll [vR (mR M1 l0 5), vR (l0 + 4), vI (mI M1 l2 9), vI (mI M1 l0 8)] M1 (fun r M2 => ∃ x2 : Int32, r = some (vI x2) ∧ Ext M1 M2 ∧ Q (some (vI x2)) M2)) ∧ (x1 = nI 0 → Q (some (vI (nI 0))) M1)))) :
    WA X d kc ns m_X5_worthOfCut 0 [some (vR l0), some (vI l1), some (vR l2)] [] M Q := by
  refine x_aload_n (tk K_X5_worthOfCut 0 rfl) rfl rfl ?_
  refine x_getR (tk K_X5_worthOfCut 1 rfl) f_X5_41 rfl (MiS.o hS) ?_
  refine x_iload_n (tk K_X5_worthOfCut 2 rfl) rfl rfl ?_
  refine x_iconst (tk K_X5_worthOfCut 3 rfl) ic_2 ?_
  refine x_aload_n (tk K_X5_worthOfCut 4 rfl) rfl rfl ?_
  have hS_2 := h.1
  have h := h.2
  refine x_getI (tk K_X5_worthOfCut 5 rfl) f_X5_91 rfl (GaS.o hS_2) ?_
  refine x_aload_n (tk K_X5_worthOfCut 6 rfl) rfl rfl ?_
  refine x_getI (tk K_X5_worthOfCut 7 rfl) f_X5_78 rfl (GaS.o hS_2) ?_
  refine x_aload_n (tk K_X5_worthOfCut 8 rfl) rfl rfl ?_
  refine x_getRc (tk K_X5_worthOfCut 9 rfl) f_X5_24 rfl (MiS.o hS) (MiS.r4 hS) ?_
  have hS_23 := h.1
  have h := h.2
  refine x_callV0 (As := [vI _, vI _, vI _, vI _, vR _]) (S := []) (tk K_X5_worthOfCut 10 rfl) mk_X5_183 mo_X3_split (LaS.o hS_23) rfl rfl (Nat.le_of_ble_eq_true rfl) hd h (fun r M1 hq => ?_)
  obtain ⟨x1, rfl, hE, h⟩ := hq
  have hT0 := MiS.ext hS hE
  have hT1 := GaS.ext hS_2 hE
  have hT2 := LaS.ext hS_23 hE
  have hT3 := hE.1 _ _ _ (MiS.k4 hS)
  refine x_if_ne (t := 26) (tk K_X5_worthOfCut 11 rfl) rfl (fun hc => ?_) (fun hc => ?_)
  · have h := h.1 hc
    refine x_aload_n (tk K_X5_worthOfCut 14 rfl) rfl rfl ?_
    refine x_getR (tk K_X5_worthOfCut 15 rfl) f_X5_41 rfl (MiS.o hT0) ?_
    refine x_aload_n (tk K_X5_worthOfCut 16 rfl) rfl rfl ?_
    refine x_getRc (tk K_X5_worthOfCut 17 rfl) f_X5_24 rfl (MiS.o hT0) (MiS.r4 hT0) ?_
    refine x_aload_n (tk K_X5_worthOfCut 18 rfl) rfl rfl ?_
    refine x_getI (tk K_X5_worthOfCut 19 rfl) f_X5_78 rfl (GaS.o hT1) ?_
    refine x_aload_n (tk K_X5_worthOfCut 20 rfl) rfl rfl ?_
    refine x_getI (tk K_X5_worthOfCut 21 rfl) f_X5_31 rfl (MiS.o hT0) ?_
    have hS_44 := h.1
    have h := h.2
    refine x_callV0 (As := [vR _, vI _, vI _]) (S := []) (tk K_X5_worthOfCut 22 rfl) mk_X5_74 mo_X3_worthOfAll (LaS.o hS_44) rfl rfl (Nat.le_of_ble_eq_true rfl) hd h (fun r M2 hq => ?_)
    obtain ⟨x2, rfl, hE, h⟩ := hq
    have hT4 := MiS.ext hT0 hE
    have hT5 := GaS.ext hT1 hE
    have hT6 := LaS.ext hT2 hE
    have hT7 := LaS.ext hS_44 hE
    have hT8 := hE.1 _ _ _ (MiS.k4 hT0)
    exact x_ireturn (tk K_X5_worthOfCut 23 rfl) rfl rfl h
  · have h := h.2 hc
    refine x_iconst (tk K_X5_worthOfCut 12 rfl) ic_0 ?_
    exact x_ireturn (tk K_X5_worthOfCut 13 rfl) rfl rfl h

theorem e_X5_worthOfCut {X : Cx} {d kc ns : Nat} {M : Mem} {Q : Option AV → Mem → Prop} {a0 : Nat} {a1 : Int32} {a2 : Nat} (h : WA X d kc ns m_X5_worthOfCut 0 [some (vR a0), some (vI a1), some (vR a2)] [] M Q) : Cl X d kc ns m_X5_worthOfCut [vR a0, vI a1, vR a2] M Q := Cl.intro (k := 0) (by decide) rfl rfl h

-- TwoPencils$Mind.drawSecond(LTwoPencils$Game;)I
theorem b_X5_drawSecond_0 {X : Cx} {d kc ns : Nat} {M : Mem} {Q : Option AV → Mem → Prop} {l0 : Nat} {l1 : Nat} (hS : MiS M l0) (hd : 1 ≤ d)
    (h : GaS M l1 ∧ Cl X (d - 1) 0 0 m_X5_drawer [vR l0, vI (mI M l1 9)] M (fun r M1 => ∃ x1 : Int32, r = some (vI x1) ∧ Ext M M1 ∧ Cl X (d - 1) 0 0 m_X5_worthOfCut [vR l0, vI (mI M1 l1 14), vR l1] M1 (fun r M2 => ∃ x2 : Int32, r = some (vI x2) ∧ Ext M1 M2 ∧ Cl X (d - 1) 0 0 m_X5_cutsOf [vR l0, vI (mI M2 l1 8), vI (mI M2 l1 9)] M2 (fun r M3 => ∃ x3 : Nat, r = some (vR x3) ∧ Ext M2 M3 ∧ WA X d kc ns m_X5_drawSecond 42 [some (vR l0), some (vR l1), some (vI x1), some (vI x2), some (vI (nI 0)), some (vI (-1)), some (vR x3), some (vI (nI 0)), none, none, none] [] M3 Q)))) :
    WA X d kc ns m_X5_drawSecond 0 [some (vR l0), some (vR l1), none, none, none, none, none, none, none, none, none] [] M Q := by
  refine x_aload_n (tk K_X5_drawSecond 0 rfl) rfl rfl ?_
  refine x_aload_n (tk K_X5_drawSecond 1 rfl) rfl rfl ?_
  have hS_2 := h.1
  have h := h.2
  refine x_getI (tk K_X5_drawSecond 2 rfl) f_X5_78 rfl (GaS.o hS_2) ?_
  refine x_callV0 (As := [vI _]) (S := []) (tk K_X5_drawSecond 3 rfl) mk_X5_94 mo_X5_drawer (MiS.o hS) rfl rfl (Nat.le_of_ble_eq_true rfl) hd h (fun r M1 hq => ?_)
  obtain ⟨x1, rfl, hE, h⟩ := hq
  have hT0 := MiS.ext hS hE
  have hT1 := GaS.ext hS_2 hE
  refine x_istore_n (L' := [some (vR _), some (vR _), some (vI _), none, none, none, none, none, none, none, none]) (tk K_X5_drawSecond 4 rfl) rfl rfl (Nat.le_of_ble_eq_true rfl) rfl ?_
  refine x_aload_n (tk K_X5_drawSecond 5 rfl) rfl rfl ?_
  refine x_aload_n (tk K_X5_drawSecond 6 rfl) rfl rfl ?_
  refine x_getI (tk K_X5_drawSecond 7 rfl) f_X5_187 rfl (GaS.o hT1) ?_
  refine x_aload_n (tk K_X5_drawSecond 8 rfl) rfl rfl ?_
  refine x_callV0 (As := [vI _, vR _]) (S := []) (tk K_X5_drawSecond 9 rfl) mk_X5_190 mo_X5_worthOfCut (MiS.o hT0) rfl rfl (Nat.le_of_ble_eq_true rfl) hd h (fun r M2 hq => ?_)
  obtain ⟨x2, rfl, hE, h⟩ := hq
  have hT2 := MiS.ext hT0 hE
  have hT3 := GaS.ext hT1 hE
  refine x_istore_n (L' := [some (vR _), some (vR _), some (vI _), some (vI _), none, none, none, none, none, none, none]) (tk K_X5_drawSecond 10 rfl) rfl rfl (Nat.le_of_ble_eq_true rfl) rfl ?_
  refine x_iconst (tk K_X5_drawSecond 11 rfl) ic_0 ?_
  refine x_istore (L' := [some (vR _), some (vR _), some (vI _), some (vI _), some (vI _), none, none, none, none, none, none]) (tk K_X5_drawSecond 12 rfl) rfl (Nat.le_of_ble_eq_true rfl) rfl ?_
  refine x_iconst (tk K_X5_drawSecond 13 rfl) ic_m1 ?_
  refine x_istore (L' := [some (vR _), some (vR _), some (vI _), some (vI _), some (vI _), some (vI _), none, none, none, none, none]) (tk K_X5_drawSecond 14 rfl) rfl (Nat.le_of_ble_eq_true rfl) rfl ?_
  refine x_aload_n (tk K_X5_drawSecond 15 rfl) rfl rfl ?_
  refine x_aload_n (tk K_X5_drawSecond 16 rfl) rfl rfl ?_
  refine x_getI (tk K_X5_drawSecond 17 rfl) f_X5_91 rfl (GaS.o hT3) ?_
  refine x_aload_n (tk K_X5_drawSecond 18 rfl) rfl rfl ?_
  refine x_getI (tk K_X5_drawSecond 19 rfl) f_X5_78 rfl (GaS.o hT3) ?_
  refine x_callV0 (As := [vI _, vI _]) (S := []) (tk K_X5_drawSecond 20 rfl) mk_X5_145 mo_X5_cutsOf (MiS.o hT2) rfl rfl (Nat.le_of_ble_eq_true rfl) hd h (fun r M3 hq => ?_)
  obtain ⟨x3, rfl, hE, h⟩ := hq
  have hT4 := MiS.ext hT2 hE
  have hT5 := GaS.ext hT3 hE
  refine x_astore (L' := [some (vR _), some (vR _), some (vI _), some (vI _), some (vI _), some (vI _), some (vR _), none, none, none, none]) (tk K_X5_drawSecond 21 rfl) rfl (Nat.le_of_ble_eq_true rfl) rfl ?_
  refine x_iconst (tk K_X5_drawSecond 22 rfl) ic_0 ?_
  refine x_istore (L' := [some (vR _), some (vR _), some (vI _), some (vI _), some (vI _), some (vI _), some (vR _), some (vI _), none, none, none]) (tk K_X5_drawSecond 23 rfl) rfl (Nat.le_of_ble_eq_true rfl) rfl ?_
  exact h

theorem b_X5_drawSecond_42 {X : Cx} {d kc ns : Nat} {M : Mem} {Q : Option AV → Mem → Prop} {l0 : Nat} {l1 : Nat} {l2 : Int32} {l3 : Int32} {l4 : Int32} {l5 : Int32} {l6 : Nat} {l7 : Int32} (hS : MiS M l0) (hd : 1 ≤ d)
    (h : (((nI 1000000) ≤ l7 → WA X d kc ns m_X5_drawSecond 145 [some (vR l0), none, none, none, some (vI l4), some (vI l5), none, none, none, none, none] [] M Q) ∧ (¬ (nI 1000000) ≤ l7 → CuS M l6 ∧ Cl X (d - 1) 0 0 m_X0_next [vR l6] M (fun r M1 => ∃ x1 : Int32, r = some (vI x1) ∧ Ext M M1 ∧ ((x1 = nI 0 → WA X d kc ns m_X5_drawSecond 145 [some (vR l0), none, none, none, some (vI l4), some (vI l5), none, none, none, none, none] [] M1 Q) ∧ (¬ x1 = nI 0 → Cl X (d - 1) 0 0 m_X0_number [vR l6, vI (nI 2)] M1 (fun r M2 => ∃ x2 : Int32, r = some (vI x2) ∧ Ext M1 M2 ∧ GaS M2 l1 ∧ LaS M2 (mR M2 l0 5) ∧ Cl X (d - 1) 0 0 m_X3_worthOfAll [vR (mR M2 l0 5), vR (l6 + 1), vI (mI M2 l1 9), vI (mI M2 l0 8)] M2 (fun r M3 => ∃ x3 : Int32, r = some (vI x3) ∧ Ext M2 M3 ∧ Cl X (d - 1) 0 0 m_X5_prefers [vI l2, vI x3, vI l3] M3 (fun r M4 => ∃ x4 : Int32, r = some (vI x4) ∧ Ext M3 M4 ∧ ((x4 = nI 0 → WA X d kc ns m_X5_drawSecond 103 [some (vR l0), some (vR l1), some (vI l2), some (vI l3), some (vI l4), some (vI l5), some (vR l6), some (vI l7), some (vI x2), none, none] [vI x3] M4 Q) ∧ (¬ x4 = nI 0 → WA X d kc ns m_X5_drawSecond 103 [some (vR l0), some (vR l1), some (vI l2), some (vI l3), some (vI l4), some (vI l5), some (vR l6), some (vI l7), some (vI x2), none, none] [vI l3] M4 Q))))))))))) :
    WA X d kc ns m_X5_drawSecond 42 [some (vR l0), some (vR l1), some (vI l2), some (vI l3), some (vI l4), some (vI l5), some (vR l6), some (vI l7), none, none, none] [] M Q := by
  refine x_iload (tk K_X5_drawSecond 24 rfl) rfl ?_
  refine x_ldc (tk K_X5_drawSecond 25 rfl) kc_X5_149 ?_
  refine x_icmp_ge (t := 145) (tk K_X5_drawSecond 26 rfl) rfl (fun hc => ?_) (fun hc => ?_)
  · have h := h.1 hc
    refine x_msk [true, false, false, false, true, true, false, false, false, false, false] ?_
    exact h
  · have h := h.2 hc
    refine x_aload (tk K_X5_drawSecond 27 rfl) rfl ?_
    have hS_2 := h.1
    have h := h.2
    refine x_callV0 (As := []) (S := []) (tk K_X5_drawSecond 28 rfl) mk_X5_150 mo_X0_next (CuS.o hS_2) rfl rfl (Nat.le_of_ble_eq_true rfl) hd h (fun r M1 hq => ?_)
    obtain ⟨x1, rfl, hE, h⟩ := hq
    have hT0 := MiS.ext hS hE
    have hT1 := CuS.ext hS_2 hE
    refine x_if_eq (t := 145) (tk K_X5_drawSecond 29 rfl) rfl (fun hc => ?_) (fun hc => ?_)
    · have h := h.1 hc
      refine x_msk [true, false, false, false, true, true, false, false, false, false, false] ?_
      exact h
    · have h := h.2 hc
      refine x_aload (tk K_X5_drawSecond 30 rfl) rfl ?_
      refine x_iconst (tk K_X5_drawSecond 31 rfl) ic_2 ?_
      refine x_callV0 (As := [vI _]) (S := []) (tk K_X5_drawSecond 32 rfl) mk_X5_160 mo_X0_number (CuS.o hT1) rfl rfl (Nat.le_of_ble_eq_true rfl) hd h (fun r M2 hq => ?_)
      obtain ⟨x2, rfl, hE, h⟩ := hq
      have hT2 := MiS.ext hT0 hE
      have hT3 := CuS.ext hT1 hE
      refine x_istore (L' := [some (vR _), some (vR _), some (vI _), some (vI _), some (vI _), some (vI _), some (vR _), some (vI _), some (vI _), none, none]) (tk K_X5_drawSecond 33 rfl) rfl (Nat.le_of_ble_eq_true rfl) rfl ?_
      refine x_aload_n (tk K_X5_drawSecond 34 rfl) rfl rfl ?_
      refine x_getR (tk K_X5_drawSecond 35 rfl) f_X5_41 rfl (MiS.o hT2) ?_
      refine x_aload (tk K_X5_drawSecond 36 rfl) rfl ?_
      refine x_getRc (tk K_X5_drawSecond 37 rfl) f_X5_153 rfl (CuS.o hT3) (CuS.r0 hT3) ?_
      refine x_aload_n (tk K_X5_drawSecond 38 rfl) rfl rfl ?_
      have hS_23 := h.1
      have h := h.2
      refine x_getI (tk K_X5_drawSecond 39 rfl) f_X5_78 rfl (GaS.o hS_23) ?_
      refine x_aload_n (tk K_X5_drawSecond 40 rfl) rfl rfl ?_
      refine x_getI (tk K_X5_drawSecond 41 rfl) f_X5_31 rfl (MiS.o hT2) ?_
      have hS_44 := h.1
      have h := h.2
      refine x_callV0 (As := [vR _, vI _, vI _]) (S := []) (tk K_X5_drawSecond 42 rfl) mk_X5_74 mo_X3_worthOfAll (LaS.o hS_44) rfl rfl (Nat.le_of_ble_eq_true rfl) hd h (fun r M3 hq => ?_)
      obtain ⟨x3, rfl, hE, h⟩ := hq
      have hT4 := MiS.ext hT2 hE
      have hT5 := CuS.ext hT3 hE
      have hT6 := GaS.ext hS_23 hE
      have hT7 := LaS.ext hS_44 hE
      have hT8 := hE.1 _ _ _ (CuS.k0 hT3)
      refine x_istore (L' := [some (vR _), some (vR _), some (vI _), some (vI _), some (vI _), some (vI _), some (vR _), some (vI _), some (vI _), some (vI _), none]) (tk K_X5_drawSecond 43 rfl) rfl (Nat.le_of_ble_eq_true rfl) rfl ?_
      refine x_iload_n (tk K_X5_drawSecond 44 rfl) rfl rfl ?_
      refine x_iload (tk K_X5_drawSecond 45 rfl) rfl ?_
      refine x_iload_n (tk K_X5_drawSecond 46 rfl) rfl rfl ?_
      refine x_callS0 (As := [vI _, vI _, vI _]) (S := []) (tk K_X5_drawSecond 47 rfl) mk_X5_156 mo_X5_prefers rfl rfl (Nat.le_of_ble_eq_true rfl) hd h (fun r M4 hq => ?_)
      obtain ⟨x4, rfl, hE, h⟩ := hq
      have hT9 := MiS.ext hT4 hE
      have hT10 := CuS.ext hT5 hE
      have hT11 := GaS.ext hT6 hE
      have hT12 := LaS.ext hT7 hE
      have hT13 := hE.1 _ _ _ hT8
      refine x_if_eq (t := 101) (tk K_X5_drawSecond 48 rfl) rfl (fun hc => ?_) (fun hc => ?_)
      · have h := h.1 hc
        refine x_iload (tk K_X5_drawSecond 51 rfl) rfl ?_
        refine x_msk [true, true, true, true, true, true, true, true, true, false, false] ?_
        exact h
      · have h := h.2 hc
        refine x_iload_n (tk K_X5_drawSecond 49 rfl) rfl rfl ?_
        refine x_goto (t := 103) (tk K_X5_drawSecond 50 rfl) rfl ?_
        refine x_msk [true, true, true, true, true, true, true, true, true, false, false] ?_
        exact h

theorem b_X5_drawSecond_103 {X : Cx} {d kc ns : Nat} {M : Mem} {Q : Option AV → Mem → Prop} {l0 : Nat} {l1 : Nat} {l2 : Int32} {l3 : Int32} {l4 : Int32} {l5 : Int32} {l6 : Nat} {l7 : Int32} {l8 : Int32} {s0 : Int32} (hS : MiS M l0) (hd : 1 ≤ d)
    (h : GaS M l1 ∧ ((l8 ≤ (mI M l1 14) → WA X d kc ns m_X5_drawSecond 42 [some (vR l0), some (vR l1), some (vI l2), some (vI l3), some (vI l4), some (vI l5), some (vR l6), some (vI (l7 + (nI 1))), none, none, none] [] M Q) ∧ (¬ l8 ≤ (mI M l1 14) → ((l5 = (-1) → WA X d kc ns m_X5_drawSecond 131 [some (vR l0), some (vR l1), some (vI l2), some (vI l3), none, none, some (vR l6), some (vI l7), some (vI l8), none, some (vI s0)] [] M Q) ∧ (¬ l5 = (-1) → Cl X (d - 1) 0 0 m_X5_prefers [vI l2, vI s0, vI l4] M (fun r M1 => ∃ x1 : Int32, r = some (vI x1) ∧ Ext M M1 ∧ ((x1 = nI 0 → WA X d kc ns m_X5_drawSecond 42 [some (vR l0), some (vR l1), some (vI l2), some (vI l3), some (vI l4), some (vI l5), some (vR l6), some (vI (l7 + (nI 1))), none, none, none] [] M1 Q) ∧ (¬ x1 = nI 0 → WA X d kc ns m_X5_drawSecond 131 [some (vR l0), some (vR l1), some (vI l2), some (vI l3), none, none, some (vR l6), some (vI l7), some (vI l8), none, some (vI s0)] [] M1 Q)))))))) :
    WA X d kc ns m_X5_drawSecond 103 [some (vR l0), some (vR l1), some (vI l2), some (vI l3), some (vI l4), some (vI l5), some (vR l6), some (vI l7), some (vI l8), none, none] [vI s0] M Q := by
  refine x_istore (L' := [some (vR _), some (vR _), some (vI _), some (vI _), some (vI _), some (vI _), some (vR _), some (vI _), some (vI _), none, some (vI _)]) (tk K_X5_drawSecond 52 rfl) rfl (Nat.le_of_ble_eq_true rfl) rfl ?_
  refine x_iload (tk K_X5_drawSecond 53 rfl) rfl ?_
  refine x_aload_n (tk K_X5_drawSecond 54 rfl) rfl rfl ?_
  have hS_2 := h.1
  have h := h.2
  refine x_getI (tk K_X5_drawSecond 55 rfl) f_X5_187 rfl (GaS.o hS_2) ?_
  refine x_icmp_le (t := 139) (tk K_X5_drawSecond 56 rfl) rfl (fun hc => ?_) (fun hc => ?_)
  · have h := h.1 hc
    refine x_iincW (L' := [some (vR _), some (vR _), some (vI _), some (vI _), some (vI _), some (vI _), some (vR _), some (vI _), some (vI _), none, some (vI _)]) (tk K_X5_drawSecond 69 rfl) rfl ic_1 rfl (Nat.le_of_ble_eq_true rfl) rfl ?_
    refine x_goto (t := 42) (tk K_X5_drawSecond 70 rfl) rfl ?_
    refine x_msk [true, true, true, true, true, true, true, true, false, false, false] ?_
    exact h
  · have h := h.2 hc
    refine x_iload (tk K_X5_drawSecond 57 rfl) rfl ?_
    refine x_iconst (tk K_X5_drawSecond 58 rfl) ic_m1 ?_
    refine x_icmp_eq (t := 131) (tk K_X5_drawSecond 59 rfl) rfl (fun hc => ?_) (fun hc => ?_)
    · have h := h.1 hc
      refine x_msk [true, true, true, true, false, false, true, true, true, false, true] ?_
      exact h
    · have h := h.2 hc
      refine x_iload_n (tk K_X5_drawSecond 60 rfl) rfl rfl ?_
      refine x_iload (tk K_X5_drawSecond 61 rfl) rfl ?_
      refine x_iload (tk K_X5_drawSecond 62 rfl) rfl ?_
      refine x_callS0 (As := [vI _, vI _, vI _]) (S := []) (tk K_X5_drawSecond 63 rfl) mk_X5_156 mo_X5_prefers rfl rfl (Nat.le_of_ble_eq_true rfl) hd h (fun r M1 hq => ?_)
      obtain ⟨x1, rfl, hE, h⟩ := hq
      have hT0 := MiS.ext hS hE
      have hT1 := GaS.ext hS_2 hE
      refine x_if_eq (t := 139) (tk K_X5_drawSecond 64 rfl) rfl (fun hc => ?_) (fun hc => ?_)
      · have h := h.1 hc
        refine x_iincW (L' := [some (vR _), some (vR _), some (vI _), some (vI _), some (vI _), some (vI _), some (vR _), some (vI _), some (vI _), none, some (vI _)]) (tk K_X5_drawSecond 69 rfl) rfl ic_1 rfl (Nat.le_of_ble_eq_true rfl) rfl ?_
        refine x_goto (t := 42) (tk K_X5_drawSecond 70 rfl) rfl ?_
        refine x_msk [true, true, true, true, true, true, true, true, false, false, false] ?_
        exact h
      · have h := h.2 hc
        refine x_msk [true, true, true, true, false, false, true, true, true, false, true] ?_
        exact h

theorem b_X5_drawSecond_131 {X : Cx} {d kc ns : Nat} {M : Mem} {Q : Option AV → Mem → Prop} {l0 : Nat} {l1 : Nat} {l2 : Int32} {l3 : Int32} {l6 : Nat} {l7 : Int32} {l8 : Int32} {l10 : Int32} (hS : MiS M l0)
    (h : WA X d kc ns m_X5_drawSecond 42 [some (vR l0), some (vR l1), some (vI l2), some (vI l3), some (vI l10), some (vI l8), some (vR l6), some (vI (l7 + (nI 1))), none, none, none] [] M Q) :
    WA X d kc ns m_X5_drawSecond 131 [some (vR l0), some (vR l1), some (vI l2), some (vI l3), none, none, some (vR l6), some (vI l7), some (vI l8), none, some (vI l10)] [] M Q := by
  refine x_iload (tk K_X5_drawSecond 65 rfl) rfl ?_
  refine x_istore (L' := [some (vR _), some (vR _), some (vI _), some (vI _), some (vI _), none, some (vR _), some (vI _), some (vI _), none, some (vI _)]) (tk K_X5_drawSecond 66 rfl) rfl (Nat.le_of_ble_eq_true rfl) rfl ?_
  refine x_iload (tk K_X5_drawSecond 67 rfl) rfl ?_
  refine x_istore (L' := [some (vR _), some (vR _), some (vI _), some (vI _), some (vI _), some (vI _), some (vR _), some (vI _), some (vI _), none, some (vI _)]) (tk K_X5_drawSecond 68 rfl) rfl (Nat.le_of_ble_eq_true rfl) rfl ?_
  refine x_iincW (L' := [some (vR _), some (vR _), some (vI _), some (vI _), some (vI _), some (vI _), some (vR _), some (vI _), some (vI _), none, some (vI _)]) (tk K_X5_drawSecond 69 rfl) rfl ic_1 rfl (Nat.le_of_ble_eq_true rfl) rfl ?_
  refine x_goto (t := 42) (tk K_X5_drawSecond 70 rfl) rfl ?_
  refine x_msk [true, true, true, true, true, true, true, true, false, false, false] ?_
  exact h

theorem b_X5_drawSecond_145 {X : Cx} {d kc ns : Nat} {M : Mem} {Q : Option AV → Mem → Prop} {l0 : Nat} {l4 : Int32} {l5 : Int32} (hS : MiS M l0)
    (h : ∀ M1 : Mem, M1 = sI M l0 9 l5 → Q (some (vI l4)) M1) :
    WA X d kc ns m_X5_drawSecond 145 [some (vR l0), none, none, none, some (vI l4), some (vI l5), none, none, none, none, none] [] M Q := by
  refine x_aload_n (tk K_X5_drawSecond 71 rfl) rfl rfl ?_
  refine x_iload (tk K_X5_drawSecond 72 rfl) rfl ?_
  have h := h _ rfl
  refine x_putI (tk K_X5_drawSecond 73 rfl) f_X5_34 rfl (Or.inl rfl) (MiS.o hS) ?_
  refine x_iload (tk K_X5_drawSecond 74 rfl) rfl ?_
  exact x_ireturn (tk K_X5_drawSecond 75 rfl) rfl rfl h

theorem e_X5_drawSecond {X : Cx} {d kc ns : Nat} {M : Mem} {Q : Option AV → Mem → Prop} {a0 : Nat} {a1 : Nat} (h : WA X d kc ns m_X5_drawSecond 0 [some (vR a0), some (vR a1), none, none, none, none, none, none, none, none, none] [] M Q) : Cl X d kc ns m_X5_drawSecond [vR a0, vR a1] M Q := Cl.intro (k := 9) (by decide) rfl rfl h

-- TwoPencils$Mind.takeOne(LTwoPencils$Game;)I
theorem b_X5_takeOne_0 {X : Cx} {d kc ns : Nat} {M : Mem} {Q : Option AV → Mem → Prop} {l0 : Nat} {l1 : Nat} (hS : MiS M l0) (hd : 1 ≤ d)
    (h : GaS M l1 ∧ Cl X (d - 1) 0 0 m_X5_worthOfCut [vR l0, vI (mI M l1 14), vR l1] M (fun r M1 => ∃ x1 : Int32, r = some (vI x1) ∧ Ext M M1 ∧ Cl X (d - 1) 0 0 m_X5_worthOfCut [vR l0, vI (mI M1 l1 15), vR l1] M1 (fun r M2 => ∃ x2 : Int32, r = some (vI x2) ∧ Ext M1 M2 ∧ Cl X (d - 1) 0 0 m_X5_drawer [vR l0, vI (mI M2 l1 9)] M2 (fun r M3 => ∃ x3 : Int32, r = some (vI x3) ∧ Ext M2 M3 ∧ Cl X (d - 1) 0 0 m_X5_prefers [vI ((nI 1) - x3), vI x2, vI x1] M3 (fun r M4 => ∃ x4 : Int32, r = some (vI x4) ∧ Ext M3 M4 ∧ ((x4 = nI 0 → WA X d kc ns m_X5_takeOne 48 [some (vR l0), none, some (vI x1), some (vI x2), some (vI x4)] [vI (nI 0), vR l0] M4 Q) ∧ (¬ x4 = nI 0 → WA X d kc ns m_X5_takeOne 48 [some (vR l0), none, some (vI x1), some (vI x2), some (vI x4)] [vI (nI 1), vR l0] M4 Q))))))) :
    WA X d kc ns m_X5_takeOne 0 [some (vR l0), some (vR l1), none, none, none] [] M Q := by
  refine x_aload_n (tk K_X5_takeOne 0 rfl) rfl rfl ?_
  refine x_aload_n (tk K_X5_takeOne 1 rfl) rfl rfl ?_
  have hS_2 := h.1
  have h := h.2
  refine x_getI (tk K_X5_takeOne 2 rfl) f_X5_187 rfl (GaS.o hS_2) ?_
  refine x_aload_n (tk K_X5_takeOne 3 rfl) rfl rfl ?_
  refine x_callV0 (As := [vI _, vR _]) (S := []) (tk K_X5_takeOne 4 rfl) mk_X5_190 mo_X5_worthOfCut (MiS.o hS) rfl rfl (Nat.le_of_ble_eq_true rfl) hd h (fun r M1 hq => ?_)
  obtain ⟨x1, rfl, hE, h⟩ := hq
  have hT0 := MiS.ext hS hE
  have hT1 := GaS.ext hS_2 hE
  refine x_istore_n (L' := [some (vR _), some (vR _), some (vI _), none, none]) (tk K_X5_takeOne 5 rfl) rfl rfl (Nat.le_of_ble_eq_true rfl) rfl ?_
  refine x_aload_n (tk K_X5_takeOne 6 rfl) rfl rfl ?_
  refine x_aload_n (tk K_X5_takeOne 7 rfl) rfl rfl ?_
  refine x_getI (tk K_X5_takeOne 8 rfl) f_X5_194 rfl (GaS.o hT1) ?_
  refine x_aload_n (tk K_X5_takeOne 9 rfl) rfl rfl ?_
  refine x_callV0 (As := [vI _, vR _]) (S := []) (tk K_X5_takeOne 10 rfl) mk_X5_190 mo_X5_worthOfCut (MiS.o hT0) rfl rfl (Nat.le_of_ble_eq_true rfl) hd h (fun r M2 hq => ?_)
  obtain ⟨x2, rfl, hE, h⟩ := hq
  have hT2 := MiS.ext hT0 hE
  have hT3 := GaS.ext hT1 hE
  refine x_istore_n (L' := [some (vR _), some (vR _), some (vI _), some (vI _), none]) (tk K_X5_takeOne 11 rfl) rfl rfl (Nat.le_of_ble_eq_true rfl) rfl ?_
  refine x_iconst (tk K_X5_takeOne 12 rfl) ic_1 ?_
  refine x_aload_n (tk K_X5_takeOne 13 rfl) rfl rfl ?_
  refine x_aload_n (tk K_X5_takeOne 14 rfl) rfl rfl ?_
  refine x_getI (tk K_X5_takeOne 15 rfl) f_X5_78 rfl (GaS.o hT3) ?_
  refine x_callV0 (As := [vI _]) (S := [vI _]) (tk K_X5_takeOne 16 rfl) mk_X5_94 mo_X5_drawer (MiS.o hT2) rfl rfl (Nat.le_of_ble_eq_true rfl) hd h (fun r M3 hq => ?_)
  obtain ⟨x3, rfl, hE, h⟩ := hq
  have hT4 := MiS.ext hT2 hE
  have hT5 := GaS.ext hT3 hE
  refine x_isub (tk K_X5_takeOne 17 rfl) ?_
  refine x_iload_n (tk K_X5_takeOne 18 rfl) rfl rfl ?_
  refine x_iload_n (tk K_X5_takeOne 19 rfl) rfl rfl ?_
  refine x_callS0 (As := [vI _, vI _, vI _]) (S := []) (tk K_X5_takeOne 20 rfl) mk_X5_156 mo_X5_prefers rfl rfl (Nat.le_of_ble_eq_true rfl) hd h (fun r M4 hq => ?_)
  obtain ⟨x4, rfl, hE, h⟩ := hq
  have hT6 := MiS.ext hT4 hE
  have hT7 := GaS.ext hT5 hE
  refine x_istore (L' := [some (vR _), some (vR _), some (vI _), some (vI _), some (vI _)]) (tk K_X5_takeOne 21 rfl) rfl (Nat.le_of_ble_eq_true rfl) rfl ?_
  refine x_aload_n (tk K_X5_takeOne 22 rfl) rfl rfl ?_
  refine x_iload (tk K_X5_takeOne 23 rfl) rfl ?_
  refine x_if_eq (t := 47) (tk K_X5_takeOne 24 rfl) rfl (fun hc => ?_) (fun hc => ?_)
  · have h := h.1 hc
    refine x_iconst (tk K_X5_takeOne 27 rfl) ic_0 ?_
    refine x_msk [true, false, true, true, true] ?_
    exact h
  · have h := h.2 hc
    refine x_iconst (tk K_X5_takeOne 25 rfl) ic_1 ?_
    refine x_goto (t := 48) (tk K_X5_takeOne 26 rfl) rfl ?_
    refine x_msk [true, false, true, true, true] ?_
    exact h

theorem b_X5_takeOne_48 {X : Cx} {d kc ns : Nat} {M : Mem} {Q : Option AV → Mem → Prop} {l0 : Nat} {l2 : Int32} {l3 : Int32} {l4 : Int32} {s1 : Int32} (hS : MiS M l0)
    (h : ∀ M1 : Mem, M1 = sI M l0 9 s1 → ((l4 = nI 0 → Q (some (vI l2)) M1) ∧ (¬ l4 = nI 0 → Q (some (vI l3)) M1))) :
    WA X d kc ns m_X5_takeOne 48 [some (vR l0), none, some (vI l2), some (vI l3), some (vI l4)] [vI s1, vR l0] M Q := by
  have h := h _ rfl
  refine x_putI (tk K_X5_takeOne 28 rfl) f_X5_34 rfl (Or.inl rfl) (MiS.o hS) ?_
  refine x_iload (tk K_X5_takeOne 29 rfl) rfl ?_
  refine x_if_eq (t := 60) (tk K_X5_takeOne 30 rfl) rfl (fun hc => ?_) (fun hc => ?_)
  · have h := h.1 hc
    refine x_iload_n (tk K_X5_takeOne 33 rfl) rfl rfl ?_
    exact x_ireturn (tk K_X5_takeOne 34 rfl) rfl rfl h
  · have h := h.2 hc
    refine x_iload_n (tk K_X5_takeOne 31 rfl) rfl rfl ?_
    refine x_goto (t := 61) (tk K_X5_takeOne 32 rfl) rfl ?_
    exact x_ireturn (tk K_X5_takeOne 34 rfl) rfl rfl h

theorem e_X5_takeOne {X : Cx} {d kc ns : Nat} {M : Mem} {Q : Option AV → Mem → Prop} {a0 : Nat} {a1 : Nat} (h : WA X d kc ns m_X5_takeOne 0 [some (vR a0), some (vR a1), none, none, none] [] M Q) : Cl X d kc ns m_X5_takeOne [vR a0, vR a1] M Q := Cl.intro (k := 3) (by decide) rfl rfl h
