-- TwoPencils$Game.<init>(LTwoPencils$Cutter;LTwoPencils$Joiner;LTwoPencils$Land;LTwoPencils$Protocol;)V
theorem b_X1_init_0 {X : Cx} {d kc ns : Nat} {M : Mem} {Q : Option AV → Mem → Prop} {l0 : Nat} {l1 : Nat} {l2 : Nat} {l3 : Nat} {l4 : Nat} (hS : isK M l0 1 16) (hd : 1 ≤ d)
    (h : vp_in (nI 8) 65536 ∧ 1 ≤ kc ∧ ix (nI 8) ≤ ns ∧ ∀ M1 : Mem, M1 = nw M 14 (ix (nI 8)) → ∀ M2 : Mem, M2 = sR M1 l0 4 (nx M) → ∀ M3 : Mem, M3 = sI M2 l0 5 (nI 0) → vp_in (nI 4) 65536 ∧ 1 ≤ (kc - 1) ∧ ix (nI 4) ≤ (ns - ix (nI 8)) ∧ ∀ M4 : Mem, M4 = nw M3 14 (ix (nI 4)) → ∀ M5 : Mem, M5 = sR M4 l0 6 (nx M3) → ∀ M6 : Mem, M6 = sI M5 l0 7 (nI 0) → ∀ M7 : Mem, M7 = sI M6 l0 8 (nI 0) → ∀ M8 : Mem, M8 = sI M7 l0 9 (nI 0) → ∀ M9 : Mem, M9 = sI M8 l0 10 (nI 8) → ∀ M10 : Mem, M10 = sI M9 l0 11 (nI 0) → vp_in (nI 8) 65536 ∧ 1 ≤ ((kc - 1) - 1) ∧ ix (nI 8) ≤ ((ns - ix (nI 8)) - ix (nI 4)) ∧ ∀ M11 : Mem, M11 = nw M10 14 (ix (nI 8)) → ∀ M12 : Mem, M12 = sR M11 l0 12 (nx M10) → vp_in (nI 8) 65536 ∧ 1 ≤ (((kc - 1) - 1) - 1) ∧ ix (nI 8) ≤ (((ns - ix (nI 8)) - ix (nI 4)) - ix (nI 8)) ∧ ∀ M13 : Mem, M13 = nw M12 14 (ix (nI 8)) → ∀ M14 : Mem, M14 = sR M13 l0 13 (nx M12) → ∀ M15 : Mem, M15 = sI M14 l0 14 (-1) → ∀ M16 : Mem, M16 = sI M15 l0 15 (-1) → ∀ M17 : Mem, M17 = sR M16 l0 0 l1 → ∀ M18 : Mem, M18 = sR M17 l0 1 l2 → ∀ M19 : Mem, M19 = sR M18 l0 2 l3 → ∀ M20 : Mem, M20 = sR M19 l0 3 l4 → Q none M20) :
    WA X d kc ns m_X1_init 0 [some (vR l0), some (vR l1), some (vR l2), some (vR l3), some (vR l4)] [] M Q := by
  refine x_aload_n (tk K_X1_init 0 rfl) rfl rfl ?_
  refine x_objInit (tk K_X1_init 1 rfl) oi_X1_3 oi_in oi_code hS (by decide) hd ?_
  refine x_aload_n (tk K_X1_init 2 rfl) rfl rfl ?_
  refine x_bipush (tk K_X1_init 3 rfl) bp_8 ?_
  have hx := h.1
  have hk := h.2.1
  have hn := h.2.2.1
  have h := h.2.2.2
  refine x_newa (k := 14) (tk K_X1_init 4 rfl) rfl ac_14 hx hk hn ?_
  refine WA_nm (fun M1 e_M1 => ?_)
  have h := h M1 e_M1
  have hT1 : isK M1 (nx M) 14 (ix (nI 8)) := by rw [e_M1]; exact isK_nw
  have hT2 : isK M1 l0 1 16 := by rw [e_M1]; exact (isK_nw_old hS)
  refine x_putR (tk K_X1_init 5 rfl) f_X1_11 rfl rfl (Or.inr ⟨rfl, rfl, rfl, l_X1_11⟩) hT2 ?_
  refine WA_nm (fun M2 e_M2 => ?_)
  have h := h M2 e_M2
  have hT3 : isK M2 l0 1 16 := by rw [e_M2]; exact hT2
  refine x_aload_n (tk K_X1_init 6 rfl) rfl rfl ?_
  refine x_iconst (tk K_X1_init 7 rfl) ic_0 ?_
  refine x_putI (tk K_X1_init 8 rfl) f_X1_15 rfl (Or.inl rfl) hT3 ?_
  refine WA_nm (fun M3 e_M3 => ?_)
  have h := h M3 e_M3
  have hT4 : isK M3 l0 1 16 := by rw [e_M3]; exact hT3
  refine x_aload_n (tk K_X1_init 9 rfl) rfl rfl ?_
  refine x_iconst (tk K_X1_init 10 rfl) ic_4 ?_
  have hx := h.1
  have hk := h.2.1
  have hn := h.2.2.1
  have h := h.2.2.2
  refine x_newa (k := 14) (tk K_X1_init 11 rfl) rfl ac_14 hx hk hn ?_
  refine WA_nm (fun M4 e_M4 => ?_)
  have h := h M4 e_M4
  have hT6 : isK M4 (nx M3) 14 (ix (nI 4)) := by rw [e_M4]; exact isK_nw
  have hT7 : isK M4 l0 1 16 := by rw [e_M4]; exact (isK_nw_old hT4)
  refine x_putR (tk K_X1_init 12 rfl) f_X1_19 rfl rfl (Or.inr ⟨rfl, rfl, rfl, l_X1_19⟩) hT7 ?_
  refine WA_nm (fun M5 e_M5 => ?_)
  have h := h M5 e_M5
  have hT8 : isK M5 l0 1 16 := by rw [e_M5]; exact hT7
  refine x_aload_n (tk K_X1_init 13 rfl) rfl rfl ?_
  refine x_iconst (tk K_X1_init 14 rfl) ic_0 ?_
  refine x_putI (tk K_X1_init 15 rfl) f_X1_22 rfl (Or.inl rfl) hT8 ?_
  refine WA_nm (fun M6 e_M6 => ?_)
  have h := h M6 e_M6
  have hT9 : isK M6 l0 1 16 := by rw [e_M6]; exact hT8
  refine x_aload_n (tk K_X1_init 16 rfl) rfl rfl ?_
  refine x_iconst (tk K_X1_init 17 rfl) ic_0 ?_
  refine x_putI (tk K_X1_init 18 rfl) f_X1_25 rfl (Or.inl rfl) hT9 ?_
  refine WA_nm (fun M7 e_M7 => ?_)
  have h := h M7 e_M7
  have hT10 : isK M7 l0 1 16 := by rw [e_M7]; exact hT9
  refine x_aload_n (tk K_X1_init 19 rfl) rfl rfl ?_
  refine x_iconst (tk K_X1_init 20 rfl) ic_0 ?_
  refine x_putI (tk K_X1_init 21 rfl) f_X1_28 rfl (Or.inl rfl) hT10 ?_
  refine WA_nm (fun M8 e_M8 => ?_)
  have h := h M8 e_M8
  have hT11 : isK M8 l0 1 16 := by rw [e_M8]; exact hT10
  refine x_aload_n (tk K_X1_init 22 rfl) rfl rfl ?_
  refine x_bipush (tk K_X1_init 23 rfl) bp_8 ?_
  refine x_putI (tk K_X1_init 24 rfl) f_X1_31 rfl (Or.inl rfl) hT11 ?_
  refine WA_nm (fun M9 e_M9 => ?_)
  have h := h M9 e_M9
  have hT12 : isK M9 l0 1 16 := by rw [e_M9]; exact hT11
  refine x_aload_n (tk K_X1_init 25 rfl) rfl rfl ?_
  refine x_iconst (tk K_X1_init 26 rfl) ic_0 ?_
  refine x_putZ (tk K_X1_init 27 rfl) f_X1_34 rfl (Or.inl rfl) hT12 (Or.inl rfl) ?_
  refine WA_nm (fun M10 e_M10 => ?_)
  have h := h M10 e_M10
  have hT13 : isK M10 l0 1 16 := by rw [e_M10]; exact hT12
  refine x_aload_n (tk K_X1_init 28 rfl) rfl rfl ?_
  refine x_bipush (tk K_X1_init 29 rfl) bp_8 ?_
  have hx := h.1
  have hk := h.2.1
  have hn := h.2.2.1
  have h := h.2.2.2
  refine x_newa (k := 14) (tk K_X1_init 30 rfl) rfl ac_14 hx hk hn ?_
  refine WA_nm (fun M11 e_M11 => ?_)
  have h := h M11 e_M11
  have hT15 : isK M11 (nx M10) 14 (ix (nI 8)) := by rw [e_M11]; exact isK_nw
  have hT16 : isK M11 l0 1 16 := by rw [e_M11]; exact (isK_nw_old hT13)
  refine x_putR (tk K_X1_init 31 rfl) f_X1_38 rfl rfl (Or.inr ⟨rfl, rfl, rfl, l_X1_38⟩) hT16 ?_
  refine WA_nm (fun M12 e_M12 => ?_)
  have h := h M12 e_M12
  have hT17 : isK M12 l0 1 16 := by rw [e_M12]; exact hT16
  refine x_aload_n (tk K_X1_init 32 rfl) rfl rfl ?_
  refine x_bipush (tk K_X1_init 33 rfl) bp_8 ?_
  have hx := h.1
  have hk := h.2.1
  have hn := h.2.2.1
  have h := h.2.2.2
  refine x_newa (k := 14) (tk K_X1_init 34 rfl) rfl ac_14 hx hk hn ?_
  refine WA_nm (fun M13 e_M13 => ?_)
  have h := h M13 e_M13
  have hT19 : isK M13 (nx M12) 14 (ix (nI 8)) := by rw [e_M13]; exact isK_nw
  have hT20 : isK M13 l0 1 16 := by rw [e_M13]; exact (isK_nw_old hT17)
  refine x_putR (tk K_X1_init 35 rfl) f_X1_41 rfl rfl (Or.inr ⟨rfl, rfl, rfl, l_X1_41⟩) hT20 ?_
  refine WA_nm (fun M14 e_M14 => ?_)
  have h := h M14 e_M14
  have hT21 : isK M14 l0 1 16 := by rw [e_M14]; exact hT20
  refine x_aload_n (tk K_X1_init 36 rfl) rfl rfl ?_
  refine x_iconst (tk K_X1_init 37 rfl) ic_m1 ?_
  refine x_putI (tk K_X1_init 38 rfl) f_X1_44 rfl (Or.inl rfl) hT21 ?_
  refine WA_nm (fun M15 e_M15 => ?_)
  have h := h M15 e_M15
  have hT22 : isK M15 l0 1 16 := by rw [e_M15]; exact hT21
  refine x_aload_n (tk K_X1_init 39 rfl) rfl rfl ?_
  refine x_iconst (tk K_X1_init 40 rfl) ic_m1 ?_
  refine x_putI (tk K_X1_init 41 rfl) f_X1_47 rfl (Or.inl rfl) hT22 ?_
  refine WA_nm (fun M16 e_M16 => ?_)
  have h := h M16 e_M16
  have hT23 : isK M16 l0 1 16 := by rw [e_M16]; exact hT22
  refine x_aload_n (tk K_X1_init 42 rfl) rfl rfl ?_
  refine x_aload_n (tk K_X1_init 43 rfl) rfl rfl ?_
  refine x_putR (tk K_X1_init 44 rfl) f_X1_50 rfl rfl (Or.inr ⟨rfl, rfl, rfl, l_X1_50⟩) hT23 ?_
  refine WA_nm (fun M17 e_M17 => ?_)
  have h := h M17 e_M17
  have hT24 : isK M17 l0 1 16 := by rw [e_M17]; exact hT23
  refine x_aload_n (tk K_X1_init 45 rfl) rfl rfl ?_
  refine x_aload_n (tk K_X1_init 46 rfl) rfl rfl ?_
  refine x_putR (tk K_X1_init 47 rfl) f_X1_54 rfl rfl (Or.inr ⟨rfl, rfl, rfl, l_X1_54⟩) hT24 ?_
  refine WA_nm (fun M18 e_M18 => ?_)
  have h := h M18 e_M18
  have hT25 : isK M18 l0 1 16 := by rw [e_M18]; exact hT24
  refine x_aload_n (tk K_X1_init 48 rfl) rfl rfl ?_
  refine x_aload_n (tk K_X1_init 49 rfl) rfl rfl ?_
  refine x_putR (tk K_X1_init 50 rfl) f_X1_58 rfl rfl (Or.inl rfl) hT25 ?_
  refine WA_nm (fun M19 e_M19 => ?_)
  have h := h M19 e_M19
  have hT26 : isK M19 l0 1 16 := by rw [e_M19]; exact hT25
  refine x_aload_n (tk K_X1_init 51 rfl) rfl rfl ?_
  refine x_aload (tk K_X1_init 52 rfl) rfl ?_
  refine x_putR (tk K_X1_init 53 rfl) f_X1_62 rfl rfl (Or.inl rfl) hT26 ?_
  refine WA_nm (fun M20 e_M20 => ?_)
  have h := h M20 e_M20
  have hT27 : isK M20 l0 1 16 := by rw [e_M20]; exact hT26
  exact x_return (tk K_X1_init 54 rfl) rfl h

theorem e_X1_init {X : Cx} {d kc ns : Nat} {M : Mem} {Q : Option AV → Mem → Prop} {a0 : Nat} {a1 : Nat} {a2 : Nat} {a3 : Nat} {a4 : Nat} (h : WA X d kc ns m_X1_init 0 [some (vR a0), some (vR a1), some (vR a2), some (vR a3), some (vR a4)] [] M Q) : Cl X d kc ns m_X1_init [vR a0, vR a1, vR a2, vR a3, vR a4] M Q := Cl.intro (k := 0) (by decide) rfl rfl h

-- TwoPencils$Game.start(LTwoPencils$Land;LTwoPencils$Protocol;)V
theorem b_X1_start_0 {X : Cx} {d kc ns : Nat} {M : Mem} {Q : Option AV → Mem → Prop} {l0 : Nat} {l1 : Nat} {l2 : Nat} (hS : GaS M l0) (hd : 1 ≤ d)
    (h : ∀ M1 : Mem, M1 = sR M l0 2 l1 → ∀ M2 : Mem, M2 = sR M1 l0 3 l2 → ∀ M3 : Mem, M3 = sI M2 l0 5 (nI 0) → ∀ M4 : Mem, M4 = sI M3 l0 7 (nI 0) → LaS M4 l1 ∧ ∀ M5 : Mem, M5 = sI M4 l0 8 (mI M4 l1 4) → ∀ M6 : Mem, M6 = sI M5 l0 9 (mI M5 l1 1) → Cl X (d - 1) 0 0 m_X1_enterRound [vR l0] M6 (fun r M7 => r = none ∧ Ext M6 M7 ∧ Q none M7)) :
    WA X d kc ns m_X1_start 0 [some (vR l0), some (vR l1), some (vR l2)] [] M Q := by
  refine x_aload_n (tk K_X1_start 0 rfl) rfl rfl ?_
  refine x_aload_n (tk K_X1_start 1 rfl) rfl rfl ?_
  have h := h _ rfl
  refine x_putR (tk K_X1_start 2 rfl) f_X1_58 rfl rfl (Or.inl rfl) (GaS.o hS) ?_
  refine x_aload_n (tk K_X1_start 3 rfl) rfl rfl ?_
  refine x_aload_n (tk K_X1_start 4 rfl) rfl rfl ?_
  have h := h _ rfl
  refine x_putR (tk K_X1_start 5 rfl) f_X1_62 rfl rfl (Or.inl rfl) (GaS.o (GaS.ext hS (ExtR (i := 2) (GaS.o hS) rfl))) ?_
  refine x_aload_n (tk K_X1_start 6 rfl) rfl rfl ?_
  refine x_iconst (tk K_X1_start 7 rfl) ic_0 ?_
  have h := h _ rfl
  refine x_putI (tk K_X1_start 8 rfl) f_X1_15 rfl (Or.inl rfl) (GaS.o (GaS.ext (GaS.ext hS (ExtR (i := 2) (GaS.o hS) rfl)) (ExtR (i := 3) (GaS.o (GaS.ext hS (ExtR (i := 2) (GaS.o hS) rfl))) rfl))) ?_
  refine x_aload_n (tk K_X1_start 9 rfl) rfl rfl ?_
  refine x_iconst (tk K_X1_start 10 rfl) ic_0 ?_
  have h := h _ rfl
  refine x_putI (tk K_X1_start 11 rfl) f_X1_22 rfl (Or.inl rfl) (GaS.o (GaS.ext (GaS.ext hS (ExtR (i := 2) (GaS.o hS) rfl)) (ExtR (i := 3) (GaS.o (GaS.ext hS (ExtR (i := 2) (GaS.o hS) rfl))) rfl))) ?_
  refine x_aload_n (tk K_X1_start 12 rfl) rfl rfl ?_
  refine x_aload_n (tk K_X1_start 13 rfl) rfl rfl ?_
  have hS_2 := h.1
  have h := h.2
  refine x_getI (tk K_X1_start 14 rfl) f_X1_66 rfl (LaS.o hS_2) ?_
  have h := h _ rfl
  refine x_putI (tk K_X1_start 15 rfl) f_X1_25 rfl (Or.inl rfl) (GaS.o (GaS.ext (GaS.ext hS (ExtR (i := 2) (GaS.o hS) rfl)) (ExtR (i := 3) (GaS.o (GaS.ext hS (ExtR (i := 2) (GaS.o hS) rfl))) rfl))) ?_
  refine x_aload_n (tk K_X1_start 16 rfl) rfl rfl ?_
  refine x_aload_n (tk K_X1_start 17 rfl) rfl rfl ?_
  refine x_getI (tk K_X1_start 18 rfl) f_X1_71 rfl (LaS.o hS_2) ?_
  have h := h _ rfl
  refine x_putI (tk K_X1_start 19 rfl) f_X1_28 rfl (Or.inl rfl) (GaS.o (GaS.ext (GaS.ext hS (ExtR (i := 2) (GaS.o hS) rfl)) (ExtR (i := 3) (GaS.o (GaS.ext hS (ExtR (i := 2) (GaS.o hS) rfl))) rfl))) ?_
  refine x_aload_n (tk K_X1_start 20 rfl) rfl rfl ?_
  refine x_callV0 (As := []) (S := []) (tk K_X1_start 21 rfl) mk_X1_74 mo_X1_enterRound (GaS.o (GaS.ext (GaS.ext hS (ExtR (i := 2) (GaS.o hS) rfl)) (ExtR (i := 3) (GaS.o (GaS.ext hS (ExtR (i := 2) (GaS.o hS) rfl))) rfl))) rfl rfl (Nat.le_of_ble_eq_true rfl) hd h (fun r M7 hq => ?_)
  obtain ⟨rfl, hE, h⟩ := hq
  have hT0 := GaS.ext (GaS.ext (GaS.ext hS (ExtR (i := 2) (GaS.o hS) rfl)) (ExtR (i := 3) (GaS.o (GaS.ext hS (ExtR (i := 2) (GaS.o hS) rfl))) rfl)) hE
  have hT1 := LaS.ext hS_2 hE
  exact x_return (tk K_X1_start 22 rfl) rfl h

theorem e_X1_start {X : Cx} {d kc ns : Nat} {M : Mem} {Q : Option AV → Mem → Prop} {a0 : Nat} {a1 : Nat} {a2 : Nat} (h : WA X d kc ns m_X1_start 0 [some (vR a0), some (vR a1), some (vR a2)] [] M Q) : Cl X d kc ns m_X1_start [vR a0, vR a1, vR a2] M Q := Cl.intro (k := 0) (by decide) rfl rfl h

-- TwoPencils$Game.isOver()Z
theorem b_X1_isOver_0 {X : Cx} {d kc ns : Nat} {M : Mem} {Q : Option AV → Mem → Prop} {l0 : Nat} (hS : GaS M l0)
    (h : (((mI M l0 10) = (nI 8) → Q (some (vI (nI 1))) M) ∧ (¬ (mI M l0 10) = (nI 8) → ((¬ (mI M l0 10) = (nI 9) → Q (some (vI (nI 0))) M) ∧ ((mI M l0 10) = (nI 9) → Q (some (vI (nI 1))) M))))) :
    WA X d kc ns m_X1_isOver 0 [some (vR l0)] [] M Q := by
  refine x_aload_n (tk K_X1_isOver 0 rfl) rfl rfl ?_
  refine x_getI (tk K_X1_isOver 1 rfl) f_X1_31 rfl (GaS.o hS) ?_
  refine x_bipush (tk K_X1_isOver 2 rfl) bp_8 ?_
  refine x_icmp_eq (t := 18) (tk K_X1_isOver 3 rfl) rfl (fun hc => ?_) (fun hc => ?_)
  · have h := h.1 hc
    refine x_iconst (tk K_X1_isOver 8 rfl) ic_1 ?_
    refine x_goto (t := 23) (tk K_X1_isOver 9 rfl) rfl ?_
    exact x_ireturn (tk K_X1_isOver 11 rfl) rfl (fitZ (Or.inr rfl)).1 h
  · have h := h.2 hc
    refine x_aload_n (tk K_X1_isOver 4 rfl) rfl rfl ?_
    refine x_getI (tk K_X1_isOver 5 rfl) f_X1_31 rfl (GaS.o hS) ?_
    refine x_bipush (tk K_X1_isOver 6 rfl) bp_9 ?_
    refine x_icmp_ne (t := 22) (tk K_X1_isOver 7 rfl) rfl (fun hc => ?_) (fun hc => ?_)
    · have h := h.1 hc
      refine x_iconst (tk K_X1_isOver 10 rfl) ic_0 ?_
      exact x_ireturn (tk K_X1_isOver 11 rfl) rfl (fitZ (Or.inl rfl)).1 h
    · have h := h.2 hc
      refine x_iconst (tk K_X1_isOver 8 rfl) ic_1 ?_
      refine x_goto (t := 23) (tk K_X1_isOver 9 rfl) rfl ?_
      exact x_ireturn (tk K_X1_isOver 11 rfl) rfl (fitZ (Or.inr rfl)).1 h

theorem e_X1_isOver {X : Cx} {d kc ns : Nat} {M : Mem} {Q : Option AV → Mem → Prop} {a0 : Nat} (h : WA X d kc ns m_X1_isOver 0 [some (vR a0)] [] M Q) : Cl X d kc ns m_X1_isOver [vR a0] M Q := Cl.intro (k := 0) (by decide) rfl rfl h

-- TwoPencils$Game.mover()I
theorem b_X1_mover_0 {X : Cx} {d kc ns : Nat} {M : Mem} {Q : Option AV → Mem → Prop} {l0 : Nat} (hS : GaS M l0) (hd : 1 ≤ d)
    (h : Cl X (d - 1) 0 0 m_X1_isOver [vR l0] M (fun r M1 => ∃ x1 : Int32, r = some (vI x1) ∧ Ext M M1 ∧ ((¬ x1 = nI 0 → Q (some (vI (-1))) M1) ∧ (x1 = nI 0 → (((mI M1 l0 7) < (nI 4) → PrS M1 (mR M1 l0 3) ∧ vp_in (mI M1 l0 7) 4 ∧ ∀ x2 : Int32, x2 = (mI M1 ((mR M1 l0 3) + 2) (ix (mI M1 l0 7))) → (((mI M1 l0 10) = (nI 1) → Q (some (vI ((nI 1) - x2))) M1) ∧ (¬ (mI M1 l0 10) = (nI 1) → (((mI M1 l0 10) = (nI 4) → Q (some (vI ((nI 1) - x2))) M1) ∧ (¬ (mI M1 l0 10) = (nI 4) → ((¬ (mI M1 l0 10) = (nI 7) → Q (some (vI x2)) M1) ∧ ((mI M1 l0 10) = (nI 7) → Q (some (vI ((nI 1) - x2))) M1))))))) ∧ (¬ (mI M1 l0 7) < (nI 4) → Q (some (vI (-1))) M1)))))) :
    WA X d kc ns m_X1_mover 0 [some (vR l0), none] [] M Q := by
  refine x_aload_n (tk K_X1_mover 0 rfl) rfl rfl ?_
  refine x_callV0 (As := []) (S := []) (tk K_X1_mover 1 rfl) mk_X1_77 mo_X1_isOver (GaS.o hS) rfl rfl (Nat.le_of_ble_eq_true rfl) hd h (fun r M1 hq => ?_)
  obtain ⟨x1, rfl, hE, h⟩ := hq
  have hT0 := GaS.ext hS hE
  refine x_if_ne (t := 15) (tk K_X1_mover 2 rfl) rfl (fun hc => ?_) (fun hc => ?_)
  · have h := h.1 hc
    refine x_iconst (tk K_X1_mover 7 rfl) ic_m1 ?_
    exact x_ireturn (tk K_X1_mover 8 rfl) rfl rfl h
  · have h := h.2 hc
    refine x_aload_n (tk K_X1_mover 3 rfl) rfl rfl ?_
    refine x_getI (tk K_X1_mover 4 rfl) f_X1_22 rfl (GaS.o hT0) ?_
    refine x_iconst (tk K_X1_mover 5 rfl) ic_4 ?_
    refine x_icmp_lt (t := 17) (tk K_X1_mover 6 rfl) rfl (fun hc => ?_) (fun hc => ?_)
    · have h := h.1 hc
      refine x_aload_n (tk K_X1_mover 9 rfl) rfl rfl ?_
      refine x_getR (tk K_X1_mover 10 rfl) f_X1_62 rfl (GaS.o hT0) ?_
      have hS_2 := h.1
      have h := h.2
      refine x_getRc (tk K_X1_mover 11 rfl) f_X1_81 rfl (PrS.o hS_2) (PrS.r1 hS_2) ?_
      refine x_aload_n (tk K_X1_mover 12 rfl) rfl rfl ?_
      refine x_getI (tk K_X1_mover 13 rfl) f_X1_22 rfl (GaS.o hT0) ?_
      have hi := h.1
      have h := h.2
      refine x_iald (tk K_X1_mover 14 rfl) (PrS.k1 hS_2) hi ?_
      have h := h _ rfl
      refine x_istore_n (L' := [some (vR _), some (vI _)]) (tk K_X1_mover 15 rfl) rfl rfl (Nat.le_of_ble_eq_true rfl) rfl ?_
      refine x_aload_n (tk K_X1_mover 16 rfl) rfl rfl ?_
      refine x_getI (tk K_X1_mover 17 rfl) f_X1_31 rfl (GaS.o hT0) ?_
      refine x_iconst (tk K_X1_mover 18 rfl) ic_1 ?_
      refine x_icmp_eq (t := 55) (tk K_X1_mover 19 rfl) rfl (fun hc => ?_) (fun hc => ?_)
      · have h := h.1 hc
        refine x_iconst (tk K_X1_mover 28 rfl) ic_1 ?_
        refine x_iload_n (tk K_X1_mover 29 rfl) rfl rfl ?_
        refine x_isub (tk K_X1_mover 30 rfl) ?_
        refine x_goto (t := 62) (tk K_X1_mover 31 rfl) rfl ?_
        exact x_ireturn (tk K_X1_mover 33 rfl) rfl rfl h
      · have h := h.2 hc
        refine x_aload_n (tk K_X1_mover 20 rfl) rfl rfl ?_
        refine x_getI (tk K_X1_mover 21 rfl) f_X1_31 rfl (GaS.o hT0) ?_
        refine x_iconst (tk K_X1_mover 22 rfl) ic_4 ?_
        refine x_icmp_eq (t := 55) (tk K_X1_mover 23 rfl) rfl (fun hc => ?_) (fun hc => ?_)
        · have h := h.1 hc
          refine x_iconst (tk K_X1_mover 28 rfl) ic_1 ?_
          refine x_iload_n (tk K_X1_mover 29 rfl) rfl rfl ?_
          refine x_isub (tk K_X1_mover 30 rfl) ?_
          refine x_goto (t := 62) (tk K_X1_mover 31 rfl) rfl ?_
          exact x_ireturn (tk K_X1_mover 33 rfl) rfl rfl h
        · have h := h.2 hc
          refine x_aload_n (tk K_X1_mover 24 rfl) rfl rfl ?_
          refine x_getI (tk K_X1_mover 25 rfl) f_X1_31 rfl (GaS.o hT0) ?_
          refine x_bipush (tk K_X1_mover 26 rfl) bp_7 ?_
          refine x_icmp_ne (t := 61) (tk K_X1_mover 27 rfl) rfl (fun hc => ?_) (fun hc => ?_)
          · have h := h.1 hc
            refine x_iload_n (tk K_X1_mover 32 rfl) rfl rfl ?_
            exact x_ireturn (tk K_X1_mover 33 rfl) rfl rfl h
          · have h := h.2 hc
            refine x_iconst (tk K_X1_mover 28 rfl) ic_1 ?_
            refine x_iload_n (tk K_X1_mover 29 rfl) rfl rfl ?_
            refine x_isub (tk K_X1_mover 30 rfl) ?_
            refine x_goto (t := 62) (tk K_X1_mover 31 rfl) rfl ?_
            exact x_ireturn (tk K_X1_mover 33 rfl) rfl rfl h
    · have h := h.2 hc
      refine x_iconst (tk K_X1_mover 7 rfl) ic_m1 ?_
      exact x_ireturn (tk K_X1_mover 8 rfl) rfl rfl h

theorem e_X1_mover {X : Cx} {d kc ns : Nat} {M : Mem} {Q : Option AV → Mem → Prop} {a0 : Nat} (h : WA X d kc ns m_X1_mover 0 [some (vR a0), none] [] M Q) : Cl X d kc ns m_X1_mover [vR a0] M Q := Cl.intro (k := 1) (by decide) rfl rfl h

-- TwoPencils$Game.enterRound()V
theorem b_X1_enterRound_0 {X : Cx} {d kc ns : Nat} {M : Mem} {Q : Option AV → Mem → Prop} {l0 : Nat} (hS : GaS M l0) (hd : 1 ≤ d)
    (h : (((mI M l0 9) = nI 0 → WA X d kc ns m_X1_enterRound 15 [some (vR l0)] [] M Q) ∧ (¬ (mI M l0 9) = nI 0 → (((mI M l0 7) < (nI 4) → PrS M (mR M l0 3) ∧ vp_in (mI M l0 7) 4 ∧ ∀ M1 : Mem, M1 = sI M l0 10 (mI M ((mR M l0 3) + 1) (ix (mI M l0 7))) → ((¬ (mI M1 l0 10) = (nI 3) → Cl X (d - 1) 0 0 m_X1_canCut [vR l0] M1 (fun r M2 => ∃ x1 : Int32, r = some (vI x1) ∧ Ext M1 M2 ∧ ((¬ x1 = nI 0 → Q none M2) ∧ (x1 = nI 0 → WA X d kc ns m_X1_enterRound 63 [some (vR l0)] [] M2 Q)))) ∧ ((mI M1 l0 10) = (nI 3) → Cl X (d - 1) 0 0 m_X1_canHalve [vR l0] M1 (fun r M3 => ∃ x2 : Int32, r = some (vI x2) ∧ Ext M1 M3 ∧ ((x2 = nI 0 → WA X d kc ns m_X1_enterRound 63 [some (vR l0)] [] M3 Q) ∧ (¬ x2 = nI 0 → Q none M3)))))) ∧ (¬ (mI M l0 7) < (nI 4) → WA X d kc ns m_X1_enterRound 15 [some (vR l0)] [] M Q))))) :
    WA X d kc ns m_X1_enterRound 0 [some (vR l0)] [] M Q := by
  refine x_aload_n (tk K_X1_enterRound 0 rfl) rfl rfl ?_
  refine x_getI (tk K_X1_enterRound 1 rfl) f_X1_28 rfl (GaS.o hS) ?_
  refine x_if_eq (t := 15) (tk K_X1_enterRound 2 rfl) rfl (fun hc => ?_) (fun hc => ?_)
  · have h := h.1 hc
    exact h
  · have h := h.2 hc
    refine x_aload_n (tk K_X1_enterRound 3 rfl) rfl rfl ?_
    refine x_getI (tk K_X1_enterRound 4 rfl) f_X1_22 rfl (GaS.o hS) ?_
    refine x_iconst (tk K_X1_enterRound 5 rfl) ic_4 ?_
    refine x_icmp_lt (t := 22) (tk K_X1_enterRound 6 rfl) rfl (fun hc => ?_) (fun hc => ?_)
    · have h := h.1 hc
      refine x_aload_n (tk K_X1_enterRound 11 rfl) rfl rfl ?_
      refine x_aload_n (tk K_X1_enterRound 12 rfl) rfl rfl ?_
      refine x_getR (tk K_X1_enterRound 13 rfl) f_X1_62 rfl (GaS.o hS) ?_
      have hS_2 := h.1
      have h := h.2
      refine x_getRc (tk K_X1_enterRound 14 rfl) f_X1_86 rfl (PrS.o hS_2) (PrS.r0 hS_2) ?_
      refine x_aload_n (tk K_X1_enterRound 15 rfl) rfl rfl ?_
      refine x_getI (tk K_X1_enterRound 16 rfl) f_X1_22 rfl (GaS.o hS) ?_
      have hi := h.1
      have h := h.2
      refine x_iald (tk K_X1_enterRound 17 rfl) (PrS.k0 hS_2) hi ?_
      have h := h _ rfl
      refine x_putI (tk K_X1_enterRound 18 rfl) f_X1_31 rfl (Or.inl rfl) (GaS.o hS) ?_
      refine x_aload_n (tk K_X1_enterRound 19 rfl) rfl rfl ?_
      refine x_getI (tk K_X1_enterRound 20 rfl) f_X1_31 rfl (GaS.o hS) ?_
      refine x_iconst (tk K_X1_enterRound 21 rfl) ic_3 ?_
      refine x_icmp_ne (t := 56) (tk K_X1_enterRound 22 rfl) rfl (fun hc => ?_) (fun hc => ?_)
      · have h := h.1 hc
        refine x_aload_n (tk K_X1_enterRound 27 rfl) rfl rfl ?_
        refine x_callV0 (As := []) (S := []) (tk K_X1_enterRound 28 rfl) mk_X1_92 mo_X1_canCut (GaS.o hS) rfl rfl (Nat.le_of_ble_eq_true rfl) hd h (fun r M2 hq => ?_)
        obtain ⟨x1, rfl, hE, h⟩ := hq
        have hT0 := GaS.ext hS hE
        have hT1 := PrS.ext hS_2 hE
        have hT2 := hE.1 _ _ _ (PrS.k0 hS_2)
        refine x_if_ne (t := 69) (tk K_X1_enterRound 29 rfl) rfl (fun hc => ?_) (fun hc => ?_)
        · have h := h.1 hc
          exact x_return (tk K_X1_enterRound 33 rfl) rfl h
        · have h := h.2 hc
          exact h
      · have h := h.2 hc
        refine x_aload_n (tk K_X1_enterRound 23 rfl) rfl rfl ?_
        refine x_callV0 (As := []) (S := []) (tk K_X1_enterRound 24 rfl) mk_X1_89 mo_X1_canHalve (GaS.o hS) rfl rfl (Nat.le_of_ble_eq_true rfl) hd h (fun r M3 hq => ?_)
        obtain ⟨x2, rfl, hE, h⟩ := hq
        have hT3 := GaS.ext hS hE
        have hT4 := PrS.ext hS_2 hE
        have hT5 := hE.1 _ _ _ (PrS.k0 hS_2)
        refine x_if_eq (t := 63) (tk K_X1_enterRound 25 rfl) rfl (fun hc => ?_) (fun hc => ?_)
        · have h := h.1 hc
          exact h
        · have h := h.2 hc
          refine x_goto (t := 69) (tk K_X1_enterRound 26 rfl) rfl ?_
          exact x_return (tk K_X1_enterRound 33 rfl) rfl h
    · have h := h.2 hc
      exact h

theorem b_X1_enterRound_15 {X : Cx} {d kc ns : Nat} {M : Mem} {Q : Option AV → Mem → Prop} {l0 : Nat} (hS : GaS M l0)
    (h : ∀ M1 : Mem, M1 = sI M l0 10 (nI 8) → Q none M1) :
    WA X d kc ns m_X1_enterRound 15 [some (vR l0)] [] M Q := by
  refine x_aload_n (tk K_X1_enterRound 7 rfl) rfl rfl ?_
  refine x_bipush (tk K_X1_enterRound 8 rfl) bp_8 ?_
  have h := h _ rfl
  refine x_putI (tk K_X1_enterRound 9 rfl) f_X1_31 rfl (Or.inl rfl) (GaS.o hS) ?_
  exact x_return (tk K_X1_enterRound 10 rfl) rfl h

theorem b_X1_enterRound_63 {X : Cx} {d kc ns : Nat} {M : Mem} {Q : Option AV → Mem → Prop} {l0 : Nat} (hS : GaS M l0)
    (h : ∀ M1 : Mem, M1 = sI M l0 10 (nI 9) → Q none M1) :
    WA X d kc ns m_X1_enterRound 63 [some (vR l0)] [] M Q := by
  refine x_aload_n (tk K_X1_enterRound 30 rfl) rfl rfl ?_
  refine x_bipush (tk K_X1_enterRound 31 rfl) bp_9 ?_
  have h := h _ rfl
  refine x_putI (tk K_X1_enterRound 32 rfl) f_X1_31 rfl (Or.inl rfl) (GaS.o hS) ?_
  exact x_return (tk K_X1_enterRound 33 rfl) rfl h

theorem e_X1_enterRound {X : Cx} {d kc ns : Nat} {M : Mem} {Q : Option AV → Mem → Prop} {a0 : Nat} (h : WA X d kc ns m_X1_enterRound 0 [some (vR a0)] [] M Q) : Cl X d kc ns m_X1_enterRound [vR a0] M Q := Cl.intro (k := 0) (by decide) rfl rfl h

-- TwoPencils$Game.canCut()Z
theorem b_X1_canCut_0 {X : Cx} {d kc ns : Nat} {M : Mem} {Q : Option AV → Mem → Prop} {l0 : Nat} (hS : GaS M l0) (hd : 1 ≤ d)
    (h : LaS M (mR M l0 2) ∧ Cl X (d - 1) 0 0 m_X0_begin [vR 29, vR ((mR M l0 2) + 8), vI (mI M (mR M l0 2) 0), vI (mI M l0 8), vI (mI M l0 9)] M (fun r M1 => r = none ∧ Ext M M1 ∧ Cl X (d - 1) 0 0 m_X0_next [vR 29] M1 (fun r M2 => ∃ x1 : Int32, r = some (vI x1) ∧ Ext M1 M2 ∧ ((x1 = nI 0 → WA X d kc ns m_X1_canCut 56 [some (vR l0), some (vI x1)] [vR l0] M2 Q) ∧ (¬ x1 = nI 0 → Cl X (d - 1) 0 0 m_X0_next [vR 29] M2 (fun r M3 => ∃ x2 : Int32, r = some (vI x2) ∧ Ext M2 M3 ∧ ((¬ x2 = nI 0 → WA X d kc ns m_X1_canCut 56 [some (vR l0), some (vI x1)] [vR l0] M3 Q) ∧ (x2 = nI 0 → WA X d kc ns m_X1_canCut 57 [some (vR l0), some (vI x1)] [vI (nI 1), vR l0] M3 Q)))))))) :
    WA X d kc ns m_X1_canCut 0 [some (vR l0), none] [] M Q := by
  refine x_aload_n (tk K_X1_canCut 0 rfl) rfl rfl ?_
  refine x_getRc (tk K_X1_canCut 1 rfl) f_X1_50 rfl (GaS.o hS) (GaS.r0 hS) ?_
  refine x_aload_n (tk K_X1_canCut 2 rfl) rfl rfl ?_
  refine x_getR (tk K_X1_canCut 3 rfl) f_X1_58 rfl (GaS.o hS) ?_
  have hS_3 := h.1
  have h := h.2
  refine x_getRc (tk K_X1_canCut 4 rfl) f_X1_95 rfl (LaS.o hS_3) (LaS.r11 hS_3) ?_
  refine x_aload_n (tk K_X1_canCut 5 rfl) rfl rfl ?_
  refine x_getR (tk K_X1_canCut 6 rfl) f_X1_58 rfl (GaS.o hS) ?_
  refine x_getI (tk K_X1_canCut 7 rfl) f_X1_98 rfl (LaS.o hS_3) ?_
  refine x_aload_n (tk K_X1_canCut 8 rfl) rfl rfl ?_
  refine x_getI (tk K_X1_canCut 9 rfl) f_X1_25 rfl (GaS.o hS) ?_
  refine x_aload_n (tk K_X1_canCut 10 rfl) rfl rfl ?_
  refine x_getI (tk K_X1_canCut 11 rfl) f_X1_28 rfl (GaS.o hS) ?_
  refine x_callV0 (As := [vR _, vI _, vI _, vI _]) (S := []) (tk K_X1_canCut 12 rfl) mk_X1_101 mo_X0_begin (CuS.o (GaS.k0 hS)) rfl rfl (Nat.le_of_ble_eq_true rfl) hd h (fun r M1 hq => ?_)
  obtain ⟨rfl, hE, h⟩ := hq
  have hT0 := GaS.ext hS hE
  have hT1 := CuS.ext (GaS.k0 hS) hE
  have hT2 := LaS.ext hS_3 hE
  have hT3 := hE.1 _ _ _ (LaS.k11 hS_3)
  refine x_aload_n (tk K_X1_canCut 13 rfl) rfl rfl ?_
  refine x_getRc (tk K_X1_canCut 14 rfl) f_X1_50 rfl (GaS.o hT0) (GaS.r0 hT0) ?_
  refine x_callV0 (As := []) (S := []) (tk K_X1_canCut 15 rfl) mk_X1_107 mo_X0_next (CuS.o (GaS.k0 hT0)) rfl rfl (Nat.le_of_ble_eq_true rfl) hd h (fun r M2 hq => ?_)
  obtain ⟨x1, rfl, hE, h⟩ := hq
  have hT4 := GaS.ext hT0 hE
  have hT5 := CuS.ext (GaS.k0 hT0) hE
  have hT6 := LaS.ext hT2 hE
  have hT7 := hE.1 _ _ _ hT3
  refine x_istore_n (L' := [some (vR _), some (vI _)]) (tk K_X1_canCut 16 rfl) rfl rfl (Nat.le_of_ble_eq_true rfl) rfl ?_
  refine x_aload_n (tk K_X1_canCut 17 rfl) rfl rfl ?_
  refine x_iload_n (tk K_X1_canCut 18 rfl) rfl rfl ?_
  refine x_if_eq (t := 56) (tk K_X1_canCut 19 rfl) rfl (fun hc => ?_) (fun hc => ?_)
  · have h := h.1 hc
    exact h
  · have h := h.2 hc
    refine x_aload_n (tk K_X1_canCut 20 rfl) rfl rfl ?_
    refine x_getRc (tk K_X1_canCut 21 rfl) f_X1_50 rfl (GaS.o hT4) (GaS.r0 hT4) ?_
    refine x_callV0 (As := []) (S := [vR _]) (tk K_X1_canCut 22 rfl) mk_X1_107 mo_X0_next (CuS.o (GaS.k0 hT4)) rfl rfl (Nat.le_of_ble_eq_true rfl) hd h (fun r M3 hq => ?_)
    obtain ⟨x2, rfl, hE, h⟩ := hq
    have hT8 := GaS.ext hT4 hE
    have hT9 := CuS.ext (GaS.k0 hT4) hE
    have hT10 := LaS.ext hT6 hE
    have hT11 := hE.1 _ _ _ hT7
    refine x_if_ne (t := 56) (tk K_X1_canCut 23 rfl) rfl (fun hc => ?_) (fun hc => ?_)
    · have h := h.1 hc
      exact h
    · have h := h.2 hc
      refine x_iconst (tk K_X1_canCut 24 rfl) ic_1 ?_
      refine x_goto (t := 57) (tk K_X1_canCut 25 rfl) rfl ?_
      exact h

theorem b_X1_canCut_56 {X : Cx} {d kc ns : Nat} {M : Mem} {Q : Option AV → Mem → Prop} {l0 : Nat} {l1 : Int32} (hS : GaS M l0)
    (h : WA X d kc ns m_X1_canCut 57 [some (vR l0), some (vI l1)] [vI (nI 0), vR l0] M Q) :
    WA X d kc ns m_X1_canCut 56 [some (vR l0), some (vI l1)] [vR l0] M Q := by
  refine x_iconst (tk K_X1_canCut 26 rfl) ic_0 ?_
  exact h

theorem b_X1_canCut_57 {X : Cx} {d kc ns : Nat} {M : Mem} {Q : Option AV → Mem → Prop} {l0 : Nat} {l1 : Int32} {s1 : Int32} (hS : GaS M l0)
    (h : isB s1 ∧ ∀ M1 : Mem, M1 = sI M l0 11 s1 → (isB l1 ∧ Q (some (vI l1)) M1)) :
    WA X d kc ns m_X1_canCut 57 [some (vR l0), some (vI l1)] [vI s1, vR l0] M Q := by
  have hb := h.1
  have h := h.2
  have h := h _ rfl
  refine x_putZ (tk K_X1_canCut 27 rfl) f_X1_34 rfl (Or.inl rfl) (GaS.o hS) hb ?_
  refine x_iload_n (tk K_X1_canCut 28 rfl) rfl rfl ?_
  exact x_ireturn (tk K_X1_canCut 29 rfl) rfl (fitZ h.1).1 h.2

theorem e_X1_canCut {X : Cx} {d kc ns : Nat} {M : Mem} {Q : Option AV → Mem → Prop} {a0 : Nat} (h : WA X d kc ns m_X1_canCut 0 [some (vR a0), none] [] M Q) : Cl X d kc ns m_X1_canCut [vR a0] M Q := Cl.intro (k := 1) (by decide) rfl rfl h

-- TwoPencils$Game.canHalve()Z
theorem b_X1_canHalve_0 {X : Cx} {d kc ns : Nat} {M : Mem} {Q : Option AV → Mem → Prop} {l0 : Nat} (hS : GaS M l0) (hd : 1 ≤ d)
    (h : LaS M (mR M l0 2) ∧ Cl X (d - 1) 0 0 m_X0_begin [vR 29, vR ((mR M l0 2) + 7), vI (mI M (mR M l0 2) 0), vI (mI M l0 8), vI ((nI 2) * (mI M l0 9))] M (fun r M1 => r = none ∧ Ext M M1 ∧ WA X d kc ns m_X1_canHalve 33 [some (vR l0), some (vI (nI 0))] [] M1 Q)) :
    WA X d kc ns m_X1_canHalve 0 [some (vR l0), none] [] M Q := by
  refine x_aload_n (tk K_X1_canHalve 0 rfl) rfl rfl ?_
  refine x_getRc (tk K_X1_canHalve 1 rfl) f_X1_50 rfl (GaS.o hS) (GaS.r0 hS) ?_
  refine x_aload_n (tk K_X1_canHalve 2 rfl) rfl rfl ?_
  refine x_getR (tk K_X1_canHalve 3 rfl) f_X1_58 rfl (GaS.o hS) ?_
  have hS_3 := h.1
  have h := h.2
  refine x_getRc (tk K_X1_canHalve 4 rfl) f_X1_110 rfl (LaS.o hS_3) (LaS.r10 hS_3) ?_
  refine x_aload_n (tk K_X1_canHalve 5 rfl) rfl rfl ?_
  refine x_getR (tk K_X1_canHalve 6 rfl) f_X1_58 rfl (GaS.o hS) ?_
  refine x_getI (tk K_X1_canHalve 7 rfl) f_X1_98 rfl (LaS.o hS_3) ?_
  refine x_aload_n (tk K_X1_canHalve 8 rfl) rfl rfl ?_
  refine x_getI (tk K_X1_canHalve 9 rfl) f_X1_25 rfl (GaS.o hS) ?_
  refine x_iconst (tk K_X1_canHalve 10 rfl) ic_2 ?_
  refine x_aload_n (tk K_X1_canHalve 11 rfl) rfl rfl ?_
  refine x_getI (tk K_X1_canHalve 12 rfl) f_X1_28 rfl (GaS.o hS) ?_
  refine x_imul (tk K_X1_canHalve 13 rfl) ?_
  refine x_callV0 (As := [vR _, vI _, vI _, vI _]) (S := []) (tk K_X1_canHalve 14 rfl) mk_X1_101 mo_X0_begin (CuS.o (GaS.k0 hS)) rfl rfl (Nat.le_of_ble_eq_true rfl) hd h (fun r M1 hq => ?_)
  obtain ⟨rfl, hE, h⟩ := hq
  have hT0 := GaS.ext hS hE
  have hT1 := CuS.ext (GaS.k0 hS) hE
  have hT2 := LaS.ext hS_3 hE
  have hT3 := hE.1 _ _ _ (LaS.k10 hS_3)
  refine x_iconst (tk K_X1_canHalve 15 rfl) ic_0 ?_
  refine x_istore_n (L' := [some (vR _), some (vI _)]) (tk K_X1_canHalve 16 rfl) rfl rfl (Nat.le_of_ble_eq_true rfl) rfl ?_
  exact h

theorem b_X1_canHalve_33 {X : Cx} {d kc ns : Nat} {M : Mem} {Q : Option AV → Mem → Prop} {l0 : Nat} {l1 : Int32} (hS : GaS M l0) (hd : 1 ≤ d)
    (h : (((nI 1000000) ≤ l1 → Q (some (vI (nI 0))) M) ∧ (¬ (nI 1000000) ≤ l1 → Cl X (d - 1) 0 0 m_X0_next [vR 29] M (fun r M1 => ∃ x1 : Int32, r = some (vI x1) ∧ Ext M M1 ∧ ((x1 = nI 0 → Q (some (vI (nI 0))) M1) ∧ (¬ x1 = nI 0 → Cl X (d - 1) 0 0 m_X2_join [vR 35, vR (mR M1 l0 2), vR (29 + 1), vI (mI M1 l0 9), vI (nI 0), vI (nI 0)] M1 (fun r M2 => ∃ x2 : Int32, r = some (vI x2) ∧ Ext M1 M2 ∧ ((x2 = nI 0 → WA X d kc ns m_X1_canHalve 33 [some (vR l0), some (vI (l1 + (nI 1)))] [] M2 Q) ∧ (¬ x2 = nI 0 → Q (some (vI (nI 1))) M2))))))))) :
    WA X d kc ns m_X1_canHalve 33 [some (vR l0), some (vI l1)] [] M Q := by
  refine x_iload_n (tk K_X1_canHalve 17 rfl) rfl rfl ?_
  refine x_ldc (tk K_X1_canHalve 18 rfl) kc_X1_113 ?_
  refine x_icmp_ge (t := 84) (tk K_X1_canHalve 19 rfl) rfl (fun hc => ?_) (fun hc => ?_)
  · have h := h.1 hc
    refine x_iconst (tk K_X1_canHalve 41 rfl) ic_0 ?_
    exact x_ireturn (tk K_X1_canHalve 42 rfl) rfl (fitZ (Or.inl rfl)).1 h
  · have h := h.2 hc
    refine x_aload_n (tk K_X1_canHalve 20 rfl) rfl rfl ?_
    refine x_getRc (tk K_X1_canHalve 21 rfl) f_X1_50 rfl (GaS.o hS) (GaS.r0 hS) ?_
    refine x_callV0 (As := []) (S := []) (tk K_X1_canHalve 22 rfl) mk_X1_107 mo_X0_next (CuS.o (GaS.k0 hS)) rfl rfl (Nat.le_of_ble_eq_true rfl) hd h (fun r M1 hq => ?_)
    obtain ⟨x1, rfl, hE, h⟩ := hq
    have hT0 := GaS.ext hS hE
    have hT1 := CuS.ext (GaS.k0 hS) hE
    refine x_if_eq (t := 84) (tk K_X1_canHalve 23 rfl) rfl (fun hc => ?_) (fun hc => ?_)
    · have h := h.1 hc
      refine x_iconst (tk K_X1_canHalve 41 rfl) ic_0 ?_
      exact x_ireturn (tk K_X1_canHalve 42 rfl) rfl (fitZ (Or.inl rfl)).1 h
    · have h := h.2 hc
      refine x_aload_n (tk K_X1_canHalve 24 rfl) rfl rfl ?_
      refine x_getRc (tk K_X1_canHalve 25 rfl) f_X1_54 rfl (GaS.o hT0) (GaS.r1 hT0) ?_
      refine x_aload_n (tk K_X1_canHalve 26 rfl) rfl rfl ?_
      refine x_getR (tk K_X1_canHalve 27 rfl) f_X1_58 rfl (GaS.o hT0) ?_
      refine x_aload_n (tk K_X1_canHalve 28 rfl) rfl rfl ?_
      refine x_getRc (tk K_X1_canHalve 29 rfl) f_X1_50 rfl (GaS.o hT0) (GaS.r0 hT0) ?_
      refine x_getRc (tk K_X1_canHalve 30 rfl) f_X1_114 rfl (CuS.o (GaS.k0 hT0)) (CuS.r0 (GaS.k0 hT0)) ?_
      refine x_aload_n (tk K_X1_canHalve 31 rfl) rfl rfl ?_
      refine x_getI (tk K_X1_canHalve 32 rfl) f_X1_28 rfl (GaS.o hT0) ?_
      refine x_iconst (tk K_X1_canHalve 33 rfl) ic_0 ?_
      refine x_iconst (tk K_X1_canHalve 34 rfl) ic_0 ?_
      refine x_callV0 (As := [vR _, vR _, vI _, vI _, vI _]) (S := []) (tk K_X1_canHalve 35 rfl) mk_X1_117 mo_X2_join (JoS.o (GaS.k1 hT0)) rfl rfl (Nat.le_of_ble_eq_true rfl) hd h (fun r M2 hq => ?_)
      obtain ⟨x2, rfl, hE, h⟩ := hq
      have hT2 := GaS.ext hT0 hE
      have hT3 := CuS.ext (GaS.k0 hT0) hE
      have hT4 := JoS.ext (GaS.k1 hT0) hE
      have hT5 := hE.1 _ _ _ (CuS.k0 (GaS.k0 hT0))
      refine x_if_eq (t := 78) (tk K_X1_canHalve 36 rfl) rfl (fun hc => ?_) (fun hc => ?_)
      · have h := h.1 hc
        refine x_iincW (L' := [some (vR _), some (vI _)]) (tk K_X1_canHalve 39 rfl) rfl ic_1 rfl (Nat.le_of_ble_eq_true rfl) rfl ?_
        refine x_goto (t := 33) (tk K_X1_canHalve 40 rfl) rfl ?_
        exact h
      · have h := h.2 hc
        refine x_iconst (tk K_X1_canHalve 37 rfl) ic_1 ?_
        exact x_ireturn (tk K_X1_canHalve 38 rfl) rfl (fitZ (Or.inr rfl)).1 h

theorem e_X1_canHalve {X : Cx} {d kc ns : Nat} {M : Mem} {Q : Option AV → Mem → Prop} {a0 : Nat} (h : WA X d kc ns m_X1_canHalve 0 [some (vR a0), none] [] M Q) : Cl X d kc ns m_X1_canHalve [vR a0] M Q := Cl.intro (k := 1) (by decide) rfl rfl h

-- TwoPencils$Game.permits(I)Z
theorem b_X1_permits_0 {X : Cx} {d kc ns : Nat} {M : Mem} {Q : Option AV → Mem → Prop} {l0 : Nat} {l1 : Int32} (hS : GaS M l0) (hd : 1 ≤ d)
    (h : ∀ x1 : Int32, x1 = (mI M l0 10) → (((x1.toInt < 0 ∨ 7 < x1.toInt) → Q (some (vI (nI 0))) M) ∧ (x1.toInt = 0 → WA X d kc ns m_X1_permits 52 [some (vR l0), some (vI l1)] [] M Q) ∧ (x1.toInt = 1 → ((l1 < nI 0 → Q (some (vI (nI 0))) M) ∧ (¬ l1 < nI 0 → (((mI M l0 9) ≤ l1 → Q (some (vI (nI 0))) M) ∧ (¬ (mI M l0 9) ≤ l1 → Q (some (vI (nI 1))) M))))) ∧ (x1.toInt = 2 → WA X d kc ns m_X1_permits 52 [some (vR l0), some (vI l1)] [] M Q) ∧ (x1.toInt = 3 → Cl X (d - 1) 0 0 m_X1_permitsHalves [vR l0, vI l1] M (fun r M1 => ∃ x2 : Int32, r = some (vI x2) ∧ Ext M M1 ∧ (isB x2 ∧ Q (some (vI x2)) M1))) ∧ (x1.toInt = 4 → Cl X (d - 1) 0 0 m_X1_permitsJoining [vR l0, vI l1] M (fun r M2 => ∃ x3 : Int32, r = some (vI x3) ∧ Ext M M2 ∧ (isB x3 ∧ Q (some (vI x3)) M2))) ∧ (x1.toInt = 5 → Cl X (d - 1) 0 0 m_X1_permitsFirst [vR l0, vI l1] M (fun r M3 => ∃ x4 : Int32, r = some (vI x4) ∧ Ext M M3 ∧ (isB x4 ∧ Q (some (vI x4)) M3))) ∧ (x1.toInt = 6 → ((l1 ≤ (mI M l0 14) → Q (some (vI (nI 0))) M) ∧ (¬ l1 ≤ (mI M l0 14) → LaS M (mR M l0 2) ∧ Cl X (d - 1) 0 0 m_X3_isLawfulCut [vR (mR M l0 2), vI l1, vI (mI M l0 8), vI (mI M l0 9), vR (l0 + 4)] M (fun r M4 => ∃ x5 : Int32, r = some (vI x5) ∧ Ext M M4 ∧ ((x5 = nI 0 → Q (some (vI (nI 0))) M4) ∧ (¬ x5 = nI 0 → Q (some (vI (nI 1))) M4)))))) ∧ (x1.toInt = 7 → ((l1 = nI 0 → Q (some (vI (nI 1))) M) ∧ (¬ l1 = nI 0 → ((¬ l1 = (nI 1) → Q (some (vI (nI 0))) M) ∧ (l1 = (nI 1) → Q (some (vI (nI 1))) M))))))) :
    WA X d kc ns m_X1_permits 0 [some (vR l0), some (vI l1)] [] M Q := by
  refine x_aload_n (tk K_X1_permits 0 rfl) rfl rfl ?_
  refine x_getI (tk K_X1_permits 1 rfl) f_X1_31 rfl (GaS.o hS) ?_
  have h := h _ rfl
  refine x_table (td := 161) (tk K_X1_permits 2 rfl) rfl (fun hc => ?_) (fun k hk hk2 => ?_)
  · have h := h.1 hc
    refine x_iconst (tk K_X1_permits 64 rfl) ic_0 ?_
    exact x_ireturn (tk K_X1_permits 65 rfl) rfl (fitZ (Or.inl rfl)).1 h
  · rcases (show k = 0 ∨ k = 1 ∨ k = 2 ∨ k = 3 ∨ k = 4 ∨ k = 5 ∨ k = 6 ∨ k = 7 by omega) with rfl | rfl | rfl | rfl | rfl | rfl | rfl | rfl
    · refine ⟨48, 52, rfl, rfl, ?_⟩
      have h := h.2.1 (by omega)
      exact h
    · refine ⟨69, 73, rfl, rfl, ?_⟩
      have h := h.2.2.1 (by omega)
      refine x_iload_n (tk K_X1_permits 14 rfl) rfl rfl ?_
      refine x_if_lt (t := 89) (tk K_X1_permits 15 rfl) rfl (fun hc => ?_) (fun hc => ?_)
      · have h := h.1 hc
        refine x_iconst (tk K_X1_permits 22 rfl) ic_0 ?_
        exact x_ireturn (tk K_X1_permits 23 rfl) rfl (fitZ (Or.inl rfl)).1 h
      · have h := h.2 hc
        refine x_iload_n (tk K_X1_permits 16 rfl) rfl rfl ?_
        refine x_aload_n (tk K_X1_permits 17 rfl) rfl rfl ?_
        refine x_getI (tk K_X1_permits 18 rfl) f_X1_28 rfl (GaS.o hS) ?_
        refine x_icmp_ge (t := 89) (tk K_X1_permits 19 rfl) rfl (fun hc => ?_) (fun hc => ?_)
        · have h := h.1 hc
          refine x_iconst (tk K_X1_permits 22 rfl) ic_0 ?_
          exact x_ireturn (tk K_X1_permits 23 rfl) rfl (fitZ (Or.inl rfl)).1 h
        · have h := h.2 hc
          refine x_iconst (tk K_X1_permits 20 rfl) ic_1 ?_
          refine x_goto (t := 90) (tk K_X1_permits 21 rfl) rfl ?_
          exact x_ireturn (tk K_X1_permits 23 rfl) rfl (fitZ (Or.inr rfl)).1 h
    · refine ⟨48, 52, rfl, rfl, ?_⟩
      have h := h.2.2.2.1 (by omega)
      exact h
    · refine ⟨87, 91, rfl, rfl, ?_⟩
      have h := h.2.2.2.2.1 (by omega)
      refine x_aload_n (tk K_X1_permits 24 rfl) rfl rfl ?_
      refine x_iload_n (tk K_X1_permits 25 rfl) rfl rfl ?_
      refine x_callV0 (As := [vI _]) (S := []) (tk K_X1_permits 26 rfl) mk_X1_127 mo_X1_permitsHalves (GaS.o hS) rfl rfl (Nat.le_of_ble_eq_true rfl) hd h (fun r M1 hq => ?_)
      obtain ⟨x2, rfl, hE, h⟩ := hq
      have hT0 := GaS.ext hS hE
      exact x_ireturn (tk K_X1_permits 27 rfl) rfl (fitZ h.1).1 h.2
    · refine ⟨93, 97, rfl, rfl, ?_⟩
      have h := h.2.2.2.2.2.1 (by omega)
      refine x_aload_n (tk K_X1_permits 28 rfl) rfl rfl ?_
      refine x_iload_n (tk K_X1_permits 29 rfl) rfl rfl ?_
      refine x_callV0 (As := [vI _]) (S := []) (tk K_X1_permits 30 rfl) mk_X1_131 mo_X1_permitsJoining (GaS.o hS) rfl rfl (Nat.le_of_ble_eq_true rfl) hd h (fun r M2 hq => ?_)
      obtain ⟨x3, rfl, hE, h⟩ := hq
      have hT1 := GaS.ext hS hE
      exact x_ireturn (tk K_X1_permits 31 rfl) rfl (fitZ h.1).1 h.2
    · refine ⟨99, 103, rfl, rfl, ?_⟩
      have h := h.2.2.2.2.2.2.1 (by omega)
      refine x_aload_n (tk K_X1_permits 32 rfl) rfl rfl ?_
      refine x_iload_n (tk K_X1_permits 33 rfl) rfl rfl ?_
      refine x_callV0 (As := [vI _]) (S := []) (tk K_X1_permits 34 rfl) mk_X1_134 mo_X1_permitsFirst (GaS.o hS) rfl rfl (Nat.le_of_ble_eq_true rfl) hd h (fun r M3 hq => ?_)
      obtain ⟨x4, rfl, hE, h⟩ := hq
      have hT2 := GaS.ext hS hE
      exact x_ireturn (tk K_X1_permits 35 rfl) rfl (fitZ h.1).1 h.2
    · refine ⟨105, 109, rfl, rfl, ?_⟩
      have h := h.2.2.2.2.2.2.2.1 (by omega)
      refine x_iload_n (tk K_X1_permits 36 rfl) rfl rfl ?_
      refine x_aload_n (tk K_X1_permits 37 rfl) rfl rfl ?_
      refine x_getI (tk K_X1_permits 38 rfl) f_X1_44 rfl (GaS.o hS) ?_
      refine x_icmp_le (t := 144) (tk K_X1_permits 39 rfl) rfl (fun hc => ?_) (fun hc => ?_)
      · have h := h.1 hc
        refine x_iconst (tk K_X1_permits 53 rfl) ic_0 ?_
        exact x_ireturn (tk K_X1_permits 54 rfl) rfl (fitZ (Or.inl rfl)).1 h
      · have h := h.2 hc
        refine x_aload_n (tk K_X1_permits 40 rfl) rfl rfl ?_
        refine x_getR (tk K_X1_permits 41 rfl) f_X1_58 rfl (GaS.o hS) ?_
        refine x_iload_n (tk K_X1_permits 42 rfl) rfl rfl ?_
        refine x_aload_n (tk K_X1_permits 43 rfl) rfl rfl ?_
        refine x_getI (tk K_X1_permits 44 rfl) f_X1_25 rfl (GaS.o hS) ?_
        refine x_aload_n (tk K_X1_permits 45 rfl) rfl rfl ?_
        refine x_getI (tk K_X1_permits 46 rfl) f_X1_28 rfl (GaS.o hS) ?_
        refine x_aload_n (tk K_X1_permits 47 rfl) rfl rfl ?_
        refine x_getRc (tk K_X1_permits 48 rfl) f_X1_41 rfl (GaS.o hS) (GaS.r13 hS) ?_
        have hS_2 := h.1
        have h := h.2
        refine x_callV0 (As := [vI _, vI _, vI _, vR _]) (S := []) (tk K_X1_permits 49 rfl) mk_X1_123 mo_X3_isLawfulCut (LaS.o hS_2) rfl rfl (Nat.le_of_ble_eq_true rfl) hd h (fun r M4 hq => ?_)
        obtain ⟨x5, rfl, hE, h⟩ := hq
        have hT3 := GaS.ext hS hE
        have hT4 := LaS.ext hS_2 hE
        have hT5 := hE.1 _ _ _ (GaS.k13 hS)
        refine x_if_eq (t := 144) (tk K_X1_permits 50 rfl) rfl (fun hc => ?_) (fun hc => ?_)
        · have h := h.1 hc
          refine x_iconst (tk K_X1_permits 53 rfl) ic_0 ?_
          exact x_ireturn (tk K_X1_permits 54 rfl) rfl (fitZ (Or.inl rfl)).1 h
        · have h := h.2 hc
          refine x_iconst (tk K_X1_permits 51 rfl) ic_1 ?_
          refine x_goto (t := 145) (tk K_X1_permits 52 rfl) rfl ?_
          exact x_ireturn (tk K_X1_permits 54 rfl) rfl (fitZ (Or.inr rfl)).1 h
    · refine ⟨142, 146, rfl, rfl, ?_⟩
      have h := h.2.2.2.2.2.2.2.2 (by omega)
      refine x_iload_n (tk K_X1_permits 55 rfl) rfl rfl ?_
      refine x_if_eq (t := 155) (tk K_X1_permits 56 rfl) rfl (fun hc => ?_) (fun hc => ?_)
      · have h := h.1 hc
        refine x_iconst (tk K_X1_permits 60 rfl) ic_1 ?_
        refine x_goto (t := 160) (tk K_X1_permits 61 rfl) rfl ?_
        exact x_ireturn (tk K_X1_permits 63 rfl) rfl (fitZ (Or.inr rfl)).1 h
      · have h := h.2 hc
        refine x_iload_n (tk K_X1_permits 57 rfl) rfl rfl ?_
        refine x_iconst (tk K_X1_permits 58 rfl) ic_1 ?_
        refine x_icmp_ne (t := 159) (tk K_X1_permits 59 rfl) rfl (fun hc => ?_) (fun hc => ?_)
        · have h := h.1 hc
          refine x_iconst (tk K_X1_permits 62 rfl) ic_0 ?_
          exact x_ireturn (tk K_X1_permits 63 rfl) rfl (fitZ (Or.inl rfl)).1 h
        · have h := h.2 hc
          refine x_iconst (tk K_X1_permits 60 rfl) ic_1 ?_
          refine x_goto (t := 160) (tk K_X1_permits 61 rfl) rfl ?_
          exact x_ireturn (tk K_X1_permits 63 rfl) rfl (fitZ (Or.inr rfl)).1 h

theorem b_X1_permits_52 {X : Cx} {d kc ns : Nat} {M : Mem} {Q : Option AV → Mem → Prop} {l0 : Nat} {l1 : Int32} (hS : GaS M l0) (hd : 1 ≤ d)
    (h : LaS M (mR M l0 2) ∧ Cl X (d - 1) 0 0 m_X3_isLawfulCut [vR (mR M l0 2), vI l1, vI (mI M l0 8), vI (mI M l0 9), vR (l0 + 4)] M (fun r M1 => ∃ x1 : Int32, r = some (vI x1) ∧ Ext M M1 ∧ (isB x1 ∧ Q (some (vI x1)) M1))) :
    WA X d kc ns m_X1_permits 52 [some (vR l0), some (vI l1)] [] M Q := by
  refine x_aload_n (tk K_X1_permits 3 rfl) rfl rfl ?_
  refine x_getR (tk K_X1_permits 4 rfl) f_X1_58 rfl (GaS.o hS) ?_
  refine x_iload_n (tk K_X1_permits 5 rfl) rfl rfl ?_
  refine x_aload_n (tk K_X1_permits 6 rfl) rfl rfl ?_
  refine x_getI (tk K_X1_permits 7 rfl) f_X1_25 rfl (GaS.o hS) ?_
  refine x_aload_n (tk K_X1_permits 8 rfl) rfl rfl ?_
  refine x_getI (tk K_X1_permits 9 rfl) f_X1_28 rfl (GaS.o hS) ?_
  refine x_aload_n (tk K_X1_permits 10 rfl) rfl rfl ?_
  refine x_getRc (tk K_X1_permits 11 rfl) f_X1_41 rfl (GaS.o hS) (GaS.r13 hS) ?_
  have hS_2 := h.1
  have h := h.2
  refine x_callV0 (As := [vI _, vI _, vI _, vR _]) (S := []) (tk K_X1_permits 12 rfl) mk_X1_123 mo_X3_isLawfulCut (LaS.o hS_2) rfl rfl (Nat.le_of_ble_eq_true rfl) hd h (fun r M1 hq => ?_)
  obtain ⟨x1, rfl, hE, h⟩ := hq
  have hT0 := GaS.ext hS hE
  have hT1 := LaS.ext hS_2 hE
  have hT2 := hE.1 _ _ _ (GaS.k13 hS)
  exact x_ireturn (tk K_X1_permits 13 rfl) rfl (fitZ h.1).1 h.2

theorem e_X1_permits {X : Cx} {d kc ns : Nat} {M : Mem} {Q : Option AV → Mem → Prop} {a0 : Nat} {a1 : Int32} (h : WA X d kc ns m_X1_permits 0 [some (vR a0), some (vI a1)] [] M Q) : Cl X d kc ns m_X1_permits [vR a0, vI a1] M Q := Cl.intro (k := 0) (by decide) rfl rfl h

-- TwoPencils$Game.permitsHalves(I)Z
theorem b_X1_permitsHalves_0 {X : Cx} {d kc ns : Nat} {M : Mem} {Q : Option AV → Mem → Prop} {l0 : Nat} {l1 : Int32} (hS : GaS M l0) (hd : 1 ≤ d)
    (h : LaS M (mR M l0 2) ∧ Cl X (d - 1) 0 0 m_X3_split [vR (mR M l0 2), vI l1, vI (nI 3), vI (mI M l0 8), vI ((nI 2) * (mI M l0 9)), vR (l0 + 4)] M (fun r M1 => ∃ x1 : Int32, r = some (vI x1) ∧ Ext M M1 ∧ ((¬ x1 = nI 0 → WA X d kc ns m_X1_permitsHalves 30 [some (vR l0), none, some (vI (nI 0))] [] M1 Q) ∧ (x1 = nI 0 → Q (some (vI (nI 0))) M1)))) :
    WA X d kc ns m_X1_permitsHalves 0 [some (vR l0), some (vI l1), none] [] M Q := by
  refine x_aload_n (tk K_X1_permitsHalves 0 rfl) rfl rfl ?_
  refine x_getR (tk K_X1_permitsHalves 1 rfl) f_X1_58 rfl (GaS.o hS) ?_
  refine x_iload_n (tk K_X1_permitsHalves 2 rfl) rfl rfl ?_
  refine x_iconst (tk K_X1_permitsHalves 3 rfl) ic_3 ?_
  refine x_aload_n (tk K_X1_permitsHalves 4 rfl) rfl rfl ?_
  refine x_getI (tk K_X1_permitsHalves 5 rfl) f_X1_25 rfl (GaS.o hS) ?_
  refine x_iconst (tk K_X1_permitsHalves 6 rfl) ic_2 ?_
  refine x_aload_n (tk K_X1_permitsHalves 7 rfl) rfl rfl ?_
  refine x_getI (tk K_X1_permitsHalves 8 rfl) f_X1_28 rfl (GaS.o hS) ?_
  refine x_imul (tk K_X1_permitsHalves 9 rfl) ?_
  refine x_aload_n (tk K_X1_permitsHalves 10 rfl) rfl rfl ?_
  refine x_getRc (tk K_X1_permitsHalves 11 rfl) f_X1_41 rfl (GaS.o hS) (GaS.r13 hS) ?_
  have hS_2 := h.1
  have h := h.2
  refine x_callV0 (As := [vI _, vI _, vI _, vI _, vR _]) (S := []) (tk K_X1_permitsHalves 12 rfl) mk_X1_137 mo_X3_split (LaS.o hS_2) rfl rfl (Nat.le_of_ble_eq_true rfl) hd h (fun r M1 hq => ?_)
  obtain ⟨x1, rfl, hE, h⟩ := hq
  have hT0 := GaS.ext hS hE
  have hT1 := LaS.ext hS_2 hE
  have hT2 := hE.1 _ _ _ (GaS.k13 hS)
  refine x_if_ne (t := 28) (tk K_X1_permitsHalves 13 rfl) rfl (fun hc => ?_) (fun hc => ?_)
  · have h := h.1 hc
    refine x_iconst (tk K_X1_permitsHalves 16 rfl) ic_0 ?_
    refine x_istore_n (L' := [some (vR _), some (vI _), some (vI _)]) (tk K_X1_permitsHalves 17 rfl) rfl rfl (Nat.le_of_ble_eq_true rfl) rfl ?_
    refine x_msk [true, false, true] ?_
    exact h
  · have h := h.2 hc
    refine x_iconst (tk K_X1_permitsHalves 14 rfl) ic_0 ?_
    exact x_ireturn (tk K_X1_permitsHalves 15 rfl) rfl (fitZ (Or.inl rfl)).1 h

theorem b_X1_permitsHalves_30 {X : Cx} {d kc ns : Nat} {M : Mem} {Q : Option AV → Mem → Prop} {l0 : Nat} {l2 : Int32} (hS : GaS M l0) (hd : 1 ≤ d)
    (h : ((((nI 2) * (mI M l0 9)) ≤ l2 → Cl X (d - 1) 0 0 m_X2_join [vR 35, vR (mR M l0 2), vR (l0 + 4), vI (mI M l0 9), vI (nI 0), vI (nI 0)] M (fun r M1 => ∃ x1 : Int32, r = some (vI x1) ∧ Ext M M1 ∧ (isB x1 ∧ Q (some (vI x1)) M1))) ∧ (¬ ((nI 2) * (mI M l0 9)) ≤ l2 → vp_in l2 8 ∧ LaS M (mR M l0 2) ∧ Cl X (d - 1) 0 0 m_X3_isHanging [vR (mR M l0 2), vI (mI M (l0 + 4) (ix l2))] M (fun r M2 => ∃ x2 : Int32, r = some (vI x2) ∧ Ext M M2 ∧ ((¬ x2 = nI 0 → WA X d kc ns m_X1_permitsHalves 30 [some (vR l0), none, some (vI (l2 + (nI 1)))] [] M2 Q) ∧ (x2 = nI 0 → Q (some (vI (nI 0))) M2)))))) :
    WA X d kc ns m_X1_permitsHalves 30 [some (vR l0), none, some (vI l2)] [] M Q := by
  refine x_iload_n (tk K_X1_permitsHalves 18 rfl) rfl rfl ?_
  refine x_iconst (tk K_X1_permitsHalves 19 rfl) ic_2 ?_
  refine x_aload_n (tk K_X1_permitsHalves 20 rfl) rfl rfl ?_
  refine x_getI (tk K_X1_permitsHalves 21 rfl) f_X1_28 rfl (GaS.o hS) ?_
  refine x_imul (tk K_X1_permitsHalves 22 rfl) ?_
  refine x_icmp_ge (t := 64) (tk K_X1_permitsHalves 23 rfl) rfl (fun hc => ?_) (fun hc => ?_)
  · have h := h.1 hc
    refine x_aload_n (tk K_X1_permitsHalves 36 rfl) rfl rfl ?_
    refine x_getRc (tk K_X1_permitsHalves 37 rfl) f_X1_54 rfl (GaS.o hS) (GaS.r1 hS) ?_
    refine x_aload_n (tk K_X1_permitsHalves 38 rfl) rfl rfl ?_
    refine x_getR (tk K_X1_permitsHalves 39 rfl) f_X1_58 rfl (GaS.o hS) ?_
    refine x_aload_n (tk K_X1_permitsHalves 40 rfl) rfl rfl ?_
    refine x_getRc (tk K_X1_permitsHalves 41 rfl) f_X1_41 rfl (GaS.o hS) (GaS.r13 hS) ?_
    refine x_aload_n (tk K_X1_permitsHalves 42 rfl) rfl rfl ?_
    refine x_getI (tk K_X1_permitsHalves 43 rfl) f_X1_28 rfl (GaS.o hS) ?_
    refine x_iconst (tk K_X1_permitsHalves 44 rfl) ic_0 ?_
    refine x_iconst (tk K_X1_permitsHalves 45 rfl) ic_0 ?_
    refine x_callV0 (As := [vR _, vR _, vI _, vI _, vI _]) (S := []) (tk K_X1_permitsHalves 46 rfl) mk_X1_117 mo_X2_join (JoS.o (GaS.k1 hS)) rfl rfl (Nat.le_of_ble_eq_true rfl) hd h (fun r M1 hq => ?_)
    obtain ⟨x1, rfl, hE, h⟩ := hq
    have hT0 := GaS.ext hS hE
    have hT1 := JoS.ext (GaS.k1 hS) hE
    have hT2 := hE.1 _ _ _ (GaS.k13 hS)
    exact x_ireturn (tk K_X1_permitsHalves 47 rfl) rfl (fitZ h.1).1 h.2
  · have h := h.2 hc
    refine x_aload_n (tk K_X1_permitsHalves 24 rfl) rfl rfl ?_
    refine x_getR (tk K_X1_permitsHalves 25 rfl) f_X1_58 rfl (GaS.o hS) ?_
    refine x_aload_n (tk K_X1_permitsHalves 26 rfl) rfl rfl ?_
    refine x_getRc (tk K_X1_permitsHalves 27 rfl) f_X1_41 rfl (GaS.o hS) (GaS.r13 hS) ?_
    refine x_iload_n (tk K_X1_permitsHalves 28 rfl) rfl rfl ?_
    have hi := h.1
    have h := h.2
    refine x_iald (tk K_X1_permitsHalves 29 rfl) (GaS.k13 hS) hi ?_
    have hS_2 := h.1
    have h := h.2
    refine x_callV0 (As := [vI _]) (S := []) (tk K_X1_permitsHalves 30 rfl) mk_X1_141 mo_X3_isHanging (LaS.o hS_2) rfl rfl (Nat.le_of_ble_eq_true rfl) hd h (fun r M2 hq => ?_)
    obtain ⟨x2, rfl, hE, h⟩ := hq
    have hT3 := GaS.ext hS hE
    have hT4 := LaS.ext hS_2 hE
    have hT5 := hE.1 _ _ _ (GaS.k13 hS)
    refine x_if_ne (t := 58) (tk K_X1_permitsHalves 31 rfl) rfl (fun hc => ?_) (fun hc => ?_)
    · have h := h.1 hc
      refine x_iincW (L' := [some (vR _), none, some (vI _)]) (tk K_X1_permitsHalves 34 rfl) rfl ic_1 rfl (Nat.le_of_ble_eq_true rfl) rfl ?_
      refine x_goto (t := 30) (tk K_X1_permitsHalves 35 rfl) rfl ?_
      exact h
    · have h := h.2 hc
      refine x_iconst (tk K_X1_permitsHalves 32 rfl) ic_0 ?_
      exact x_ireturn (tk K_X1_permitsHalves 33 rfl) rfl (fitZ (Or.inl rfl)).1 h

theorem e_X1_permitsHalves {X : Cx} {d kc ns : Nat} {M : Mem} {Q : Option AV → Mem → Prop} {a0 : Nat} {a1 : Int32} (h : WA X d kc ns m_X1_permitsHalves 0 [some (vR a0), some (vI a1), none] [] M Q) : Cl X d kc ns m_X1_permitsHalves [vR a0, vI a1] M Q := Cl.intro (k := 1) (by decide) rfl rfl h

-- TwoPencils$Game.permitsJoining(I)Z
theorem b_X1_permitsJoining_0 {X : Cx} {d kc ns : Nat} {M : Mem} {Q : Option AV → Mem → Prop} {l0 : Nat} {l1 : Int32} (hS : GaS M l0) (hd : 1 ≤ d)
    (h : LaS M (mR M l0 2) ∧ Cl X (d - 1) 0 0 m_X3_isLawfulCut [vR (mR M l0 2), vI l1, vI (mI M l0 8), vI (mI M l0 9), vR (l0 + 4)] M (fun r M1 => ∃ x1 : Int32, r = some (vI x1) ∧ Ext M M1 ∧ ((¬ x1 = nI 0 → WA X d kc ns m_X1_permitsJoining 27 [some (vR l0), none, some (vI (nI 0)), none, none] [] M1 Q) ∧ (x1 = nI 0 → Q (some (vI (nI 0))) M1)))) :
    WA X d kc ns m_X1_permitsJoining 0 [some (vR l0), some (vI l1), none, none, none] [] M Q := by
  refine x_aload_n (tk K_X1_permitsJoining 0 rfl) rfl rfl ?_
  refine x_getR (tk K_X1_permitsJoining 1 rfl) f_X1_58 rfl (GaS.o hS) ?_
  refine x_iload_n (tk K_X1_permitsJoining 2 rfl) rfl rfl ?_
  refine x_aload_n (tk K_X1_permitsJoining 3 rfl) rfl rfl ?_
  refine x_getI (tk K_X1_permitsJoining 4 rfl) f_X1_25 rfl (GaS.o hS) ?_
  refine x_aload_n (tk K_X1_permitsJoining 5 rfl) rfl rfl ?_
  refine x_getI (tk K_X1_permitsJoining 6 rfl) f_X1_28 rfl (GaS.o hS) ?_
  refine x_aload_n (tk K_X1_permitsJoining 7 rfl) rfl rfl ?_
  refine x_getRc (tk K_X1_permitsJoining 8 rfl) f_X1_41 rfl (GaS.o hS) (GaS.r13 hS) ?_
  have hS_2 := h.1
  have h := h.2
  refine x_callV0 (As := [vI _, vI _, vI _, vR _]) (S := []) (tk K_X1_permitsJoining 9 rfl) mk_X1_123 mo_X3_isLawfulCut (LaS.o hS_2) rfl rfl (Nat.le_of_ble_eq_true rfl) hd h (fun r M1 hq => ?_)
  obtain ⟨x1, rfl, hE, h⟩ := hq
  have hT0 := GaS.ext hS hE
  have hT1 := LaS.ext hS_2 hE
  have hT2 := hE.1 _ _ _ (GaS.k13 hS)
  refine x_if_ne (t := 25) (tk K_X1_permitsJoining 10 rfl) rfl (fun hc => ?_) (fun hc => ?_)
  · have h := h.1 hc
    refine x_iconst (tk K_X1_permitsJoining 13 rfl) ic_0 ?_
    refine x_istore_n (L' := [some (vR _), some (vI _), some (vI _), none, none]) (tk K_X1_permitsJoining 14 rfl) rfl rfl (Nat.le_of_ble_eq_true rfl) rfl ?_
    refine x_msk [true, false, true, false, false] ?_
    exact h
  · have h := h.2 hc
    refine x_iconst (tk K_X1_permitsJoining 11 rfl) ic_0 ?_
    exact x_ireturn (tk K_X1_permitsJoining 12 rfl) rfl (fitZ (Or.inl rfl)).1 h

theorem b_X1_permitsJoining_27 {X : Cx} {d kc ns : Nat} {M : Mem} {Q : Option AV → Mem → Prop} {l0 : Nat} {l2 : Int32} (hS : GaS M l0)
    (h : (((mI M l0 9) ≤ l2 → Q (some (vI (nI 1))) M) ∧ (¬ (mI M l0 9) ≤ l2 → WA X d kc ns m_X1_permitsJoining 40 [some (vR l0), none, some (vI l2), some (vI (nI 0)), some (vI (nI 0))] [] M Q))) :
    WA X d kc ns m_X1_permitsJoining 27 [some (vR l0), none, some (vI l2), none, none] [] M Q := by
  refine x_iload_n (tk K_X1_permitsJoining 15 rfl) rfl rfl ?_
  refine x_aload_n (tk K_X1_permitsJoining 16 rfl) rfl rfl ?_
  refine x_getI (tk K_X1_permitsJoining 17 rfl) f_X1_28 rfl (GaS.o hS) ?_
  refine x_icmp_ge (t := 92) (tk K_X1_permitsJoining 18 rfl) rfl (fun hc => ?_) (fun hc => ?_)
  · have h := h.1 hc
    refine x_iconst (tk K_X1_permitsJoining 51 rfl) ic_1 ?_
    exact x_ireturn (tk K_X1_permitsJoining 52 rfl) rfl (fitZ (Or.inr rfl)).1 h
  · have h := h.2 hc
    refine x_iconst (tk K_X1_permitsJoining 19 rfl) ic_0 ?_
    refine x_istore_n (L' := [some (vR _), none, some (vI _), some (vI _), none]) (tk K_X1_permitsJoining 20 rfl) rfl rfl (Nat.le_of_ble_eq_true rfl) rfl ?_
    refine x_iconst (tk K_X1_permitsJoining 21 rfl) ic_0 ?_
    refine x_istore (L' := [some (vR _), none, some (vI _), some (vI _), some (vI _)]) (tk K_X1_permitsJoining 22 rfl) rfl (Nat.le_of_ble_eq_true rfl) rfl ?_
    exact h

theorem b_X1_permitsJoining_40 {X : Cx} {d kc ns : Nat} {M : Mem} {Q : Option AV → Mem → Prop} {l0 : Nat} {l2 : Int32} {l3 : Int32} {l4 : Int32} (hS : GaS M l0)
    (h : ((((nI 2) * (mI M l0 9)) ≤ l4 → ((l3 = (nI 2) → WA X d kc ns m_X1_permitsJoining 27 [some (vR l0), none, some (vI (l2 + (nI 1))), none, none] [] M Q) ∧ (¬ l3 = (nI 2) → Q (some (vI (nI 0))) M))) ∧ (¬ ((nI 2) * (mI M l0 9)) ≤ l4 → vp_in l4 8 ∧ vp_in l2 8 ∧ ((¬ ((mI M (l0 + 3) (ix l4)) &&& ((mI M (l0 + 4) (ix l2)) ^^^ (-1))) = nI 0 → WA X d kc ns m_X1_permitsJoining 40 [some (vR l0), none, some (vI l2), some (vI l3), some (vI (l4 + (nI 1)))] [] M Q) ∧ (((mI M (l0 + 3) (ix l4)) &&& ((mI M (l0 + 4) (ix l2)) ^^^ (-1))) = nI 0 → WA X d kc ns m_X1_permitsJoining 40 [some (vR l0), none, some (vI l2), some (vI (l3 + (nI 1))), some (vI (l4 + (nI 1)))] [] M Q))))) :
    WA X d kc ns m_X1_permitsJoining 40 [some (vR l0), none, some (vI l2), some (vI l3), some (vI l4)] [] M Q := by
  refine x_iload (tk K_X1_permitsJoining 23 rfl) rfl ?_
  refine x_iconst (tk K_X1_permitsJoining 24 rfl) ic_2 ?_
  refine x_aload_n (tk K_X1_permitsJoining 25 rfl) rfl rfl ?_
  refine x_getI (tk K_X1_permitsJoining 26 rfl) f_X1_28 rfl (GaS.o hS) ?_
  refine x_imul (tk K_X1_permitsJoining 27 rfl) ?_
  refine x_icmp_ge (t := 79) (tk K_X1_permitsJoining 28 rfl) rfl (fun hc => ?_) (fun hc => ?_)
  · have h := h.1 hc
    refine x_iload_n (tk K_X1_permitsJoining 44 rfl) rfl rfl ?_
    refine x_iconst (tk K_X1_permitsJoining 45 rfl) ic_2 ?_
    refine x_icmp_eq (t := 86) (tk K_X1_permitsJoining 46 rfl) rfl (fun hc => ?_) (fun hc => ?_)
    · have h := h.1 hc
      refine x_iincW (L' := [some (vR _), none, some (vI _), some (vI _), some (vI _)]) (tk K_X1_permitsJoining 49 rfl) rfl ic_1 rfl (Nat.le_of_ble_eq_true rfl) rfl ?_
      refine x_goto (t := 27) (tk K_X1_permitsJoining 50 rfl) rfl ?_
      refine x_msk [true, false, true, false, false] ?_
      exact h
    · have h := h.2 hc
      refine x_iconst (tk K_X1_permitsJoining 47 rfl) ic_0 ?_
      exact x_ireturn (tk K_X1_permitsJoining 48 rfl) rfl (fitZ (Or.inl rfl)).1 h
  · have h := h.2 hc
    refine x_aload_n (tk K_X1_permitsJoining 29 rfl) rfl rfl ?_
    refine x_getRc (tk K_X1_permitsJoining 30 rfl) f_X1_38 rfl (GaS.o hS) (GaS.r12 hS) ?_
    refine x_iload (tk K_X1_permitsJoining 31 rfl) rfl ?_
    have hi := h.1
    have h := h.2
    refine x_iald (tk K_X1_permitsJoining 32 rfl) (GaS.k12 hS) hi ?_
    refine x_aload_n (tk K_X1_permitsJoining 33 rfl) rfl rfl ?_
    refine x_getRc (tk K_X1_permitsJoining 34 rfl) f_X1_41 rfl (GaS.o hS) (GaS.r13 hS) ?_
    refine x_iload_n (tk K_X1_permitsJoining 35 rfl) rfl rfl ?_
    have hi := h.1
    have h := h.2
    refine x_iald (tk K_X1_permitsJoining 36 rfl) (GaS.k13 hS) hi ?_
    refine x_iconst (tk K_X1_permitsJoining 37 rfl) ic_m1 ?_
    refine x_ixor (tk K_X1_permitsJoining 38 rfl) ?_
    refine x_iand (tk K_X1_permitsJoining 39 rfl) ?_
    refine x_if_ne (t := 73) (tk K_X1_permitsJoining 40 rfl) rfl (fun hc => ?_) (fun hc => ?_)
    · have h := h.1 hc
      refine x_iincW (L' := [some (vR _), none, some (vI _), some (vI _), some (vI _)]) (tk K_X1_permitsJoining 42 rfl) rfl ic_1 rfl (Nat.le_of_ble_eq_true rfl) rfl ?_
      refine x_goto (t := 40) (tk K_X1_permitsJoining 43 rfl) rfl ?_
      exact h
    · have h := h.2 hc
      refine x_iincW (L' := [some (vR _), none, some (vI _), some (vI _), some (vI _)]) (tk K_X1_permitsJoining 41 rfl) rfl ic_1 rfl (Nat.le_of_ble_eq_true rfl) rfl ?_
      refine x_iincW (L' := [some (vR _), none, some (vI _), some (vI _), some (vI _)]) (tk K_X1_permitsJoining 42 rfl) rfl ic_1 rfl (Nat.le_of_ble_eq_true rfl) rfl ?_
      refine x_goto (t := 40) (tk K_X1_permitsJoining 43 rfl) rfl ?_
      exact h

theorem e_X1_permitsJoining {X : Cx} {d kc ns : Nat} {M : Mem} {Q : Option AV → Mem → Prop} {a0 : Nat} {a1 : Int32} (h : WA X d kc ns m_X1_permitsJoining 0 [some (vR a0), some (vI a1), none, none, none] [] M Q) : Cl X d kc ns m_X1_permitsJoining [vR a0, vI a1] M Q := Cl.intro (k := 3) (by decide) rfl rfl h

-- TwoPencils$Game.permitsFirst(I)Z
theorem b_X1_permitsFirst_0 {X : Cx} {d kc ns : Nat} {M : Mem} {Q : Option AV → Mem → Prop} {l0 : Nat} {l1 : Int32} (hS : GaS M l0) (hd : 1 ≤ d)
    (h : LaS M (mR M l0 2) ∧ Cl X (d - 1) 0 0 m_X3_isLawfulCut [vR (mR M l0 2), vI l1, vI (mI M l0 8), vI (mI M l0 9), vR (l0 + 4)] M (fun r M1 => ∃ x1 : Int32, r = some (vI x1) ∧ Ext M M1 ∧ ((¬ x1 = nI 0 → LaS M1 (mR M1 l0 2) ∧ Cl X (d - 1) 0 0 m_X0_begin [vR 29, vR ((mR M1 l0 2) + 8), vI (mI M1 (mR M1 l0 2) 0), vI (mI M1 l0 8), vI (mI M1 l0 9)] M1 (fun r M2 => r = none ∧ Ext M1 M2 ∧ WA X d kc ns m_X1_permitsFirst 58 [some (vR l0), some (vI l1), some (vI (nI 0)), some (vI (nI 0))] [] M2 Q)) ∧ (x1 = nI 0 → Q (some (vI (nI 0))) M1)))) :
    WA X d kc ns m_X1_permitsFirst 0 [some (vR l0), some (vI l1), none, none] [] M Q := by
  refine x_aload_n (tk K_X1_permitsFirst 0 rfl) rfl rfl ?_
  refine x_getR (tk K_X1_permitsFirst 1 rfl) f_X1_58 rfl (GaS.o hS) ?_
  refine x_iload_n (tk K_X1_permitsFirst 2 rfl) rfl rfl ?_
  refine x_aload_n (tk K_X1_permitsFirst 3 rfl) rfl rfl ?_
  refine x_getI (tk K_X1_permitsFirst 4 rfl) f_X1_25 rfl (GaS.o hS) ?_
  refine x_aload_n (tk K_X1_permitsFirst 5 rfl) rfl rfl ?_
  refine x_getI (tk K_X1_permitsFirst 6 rfl) f_X1_28 rfl (GaS.o hS) ?_
  refine x_aload_n (tk K_X1_permitsFirst 7 rfl) rfl rfl ?_
  refine x_getRc (tk K_X1_permitsFirst 8 rfl) f_X1_41 rfl (GaS.o hS) (GaS.r13 hS) ?_
  have hS_2 := h.1
  have h := h.2
  refine x_callV0 (As := [vI _, vI _, vI _, vR _]) (S := []) (tk K_X1_permitsFirst 9 rfl) mk_X1_123 mo_X3_isLawfulCut (LaS.o hS_2) rfl rfl (Nat.le_of_ble_eq_true rfl) hd h (fun r M1 hq => ?_)
  obtain ⟨x1, rfl, hE, h⟩ := hq
  have hT0 := GaS.ext hS hE
  have hT1 := LaS.ext hS_2 hE
  have hT2 := hE.1 _ _ _ (GaS.k13 hS)
  refine x_if_ne (t := 25) (tk K_X1_permitsFirst 10 rfl) rfl (fun hc => ?_) (fun hc => ?_)
  · have h := h.1 hc
    refine x_aload_n (tk K_X1_permitsFirst 13 rfl) rfl rfl ?_
    refine x_getRc (tk K_X1_permitsFirst 14 rfl) f_X1_50 rfl (GaS.o hT0) (GaS.r0 hT0) ?_
    refine x_aload_n (tk K_X1_permitsFirst 15 rfl) rfl rfl ?_
    refine x_getR (tk K_X1_permitsFirst 16 rfl) f_X1_58 rfl (GaS.o hT0) ?_
    have hS_24 := h.1
    have h := h.2
    refine x_getRc (tk K_X1_permitsFirst 17 rfl) f_X1_95 rfl (LaS.o hS_24) (LaS.r11 hS_24) ?_
    refine x_aload_n (tk K_X1_permitsFirst 18 rfl) rfl rfl ?_
    refine x_getR (tk K_X1_permitsFirst 19 rfl) f_X1_58 rfl (GaS.o hT0) ?_
    refine x_getI (tk K_X1_permitsFirst 20 rfl) f_X1_98 rfl (LaS.o hS_24) ?_
    refine x_aload_n (tk K_X1_permitsFirst 21 rfl) rfl rfl ?_
    refine x_getI (tk K_X1_permitsFirst 22 rfl) f_X1_25 rfl (GaS.o hT0) ?_
    refine x_aload_n (tk K_X1_permitsFirst 23 rfl) rfl rfl ?_
    refine x_getI (tk K_X1_permitsFirst 24 rfl) f_X1_28 rfl (GaS.o hT0) ?_
    refine x_callV0 (As := [vR _, vI _, vI _, vI _]) (S := []) (tk K_X1_permitsFirst 25 rfl) mk_X1_101 mo_X0_begin (CuS.o (GaS.k0 hT0)) rfl rfl (Nat.le_of_ble_eq_true rfl) hd h (fun r M2 hq => ?_)
    obtain ⟨rfl, hE, h⟩ := hq
    have hT3 := GaS.ext hT0 hE
    have hT4 := LaS.ext hT1 hE
    have hT5 := CuS.ext (GaS.k0 hT0) hE
    have hT6 := LaS.ext hS_24 hE
    have hT7 := hE.1 _ _ _ hT2
    have hT8 := hE.1 _ _ _ (LaS.k11 hS_24)
    refine x_iconst (tk K_X1_permitsFirst 26 rfl) ic_0 ?_
    refine x_istore_n (L' := [some (vR _), some (vI _), some (vI _), none]) (tk K_X1_permitsFirst 27 rfl) rfl rfl (Nat.le_of_ble_eq_true rfl) rfl ?_
    refine x_iconst (tk K_X1_permitsFirst 28 rfl) ic_0 ?_
    refine x_istore_n (L' := [some (vR _), some (vI _), some (vI _), some (vI _)]) (tk K_X1_permitsFirst 29 rfl) rfl rfl (Nat.le_of_ble_eq_true rfl) rfl ?_
    exact h
  · have h := h.2 hc
    refine x_iconst (tk K_X1_permitsFirst 11 rfl) ic_0 ?_
    exact x_ireturn (tk K_X1_permitsFirst 12 rfl) rfl (fitZ (Or.inl rfl)).1 h

theorem b_X1_permitsFirst_58 {X : Cx} {d kc ns : Nat} {M : Mem} {Q : Option AV → Mem → Prop} {l0 : Nat} {l1 : Int32} {l2 : Int32} {l3 : Int32} (hS : GaS M l0) (hd : 1 ≤ d)
    (h : (((nI 1000000) ≤ l3 → WA X d kc ns m_X1_permitsFirst 102 [some (vR l0), none, some (vI l2), none] [] M Q) ∧ (¬ (nI 1000000) ≤ l3 → ((¬ l2 = nI 0 → WA X d kc ns m_X1_permitsFirst 102 [some (vR l0), none, some (vI l2), none] [] M Q) ∧ (l2 = nI 0 → Cl X (d - 1) 0 0 m_X0_next [vR 29] M (fun r M1 => ∃ x1 : Int32, r = some (vI x1) ∧ Ext M M1 ∧ ((x1 = nI 0 → WA X d kc ns m_X1_permitsFirst 102 [some (vR l0), none, some (vI l2), none] [] M1 Q) ∧ (¬ x1 = nI 0 → Cl X (d - 1) 0 0 m_X0_number [vR 29, vI (nI 2)] M1 (fun r M2 => ∃ x2 : Int32, r = some (vI x2) ∧ Ext M1 M2 ∧ ((x2 ≤ l1 → WA X d kc ns m_X1_permitsFirst 58 [some (vR l0), some (vI l1), some (vI (nI 0)), some (vI (l3 + (nI 1)))] [] M2 Q) ∧ (¬ x2 ≤ l1 → WA X d kc ns m_X1_permitsFirst 58 [some (vR l0), some (vI l1), some (vI (nI 1)), some (vI (l3 + (nI 1)))] [] M2 Q))))))))))) :
    WA X d kc ns m_X1_permitsFirst 58 [some (vR l0), some (vI l1), some (vI l2), some (vI l3)] [] M Q := by
  refine x_iload_n (tk K_X1_permitsFirst 30 rfl) rfl rfl ?_
  refine x_ldc (tk K_X1_permitsFirst 31 rfl) kc_X1_113 ?_
  refine x_icmp_ge (t := 102) (tk K_X1_permitsFirst 32 rfl) rfl (fun hc => ?_) (fun hc => ?_)
  · have h := h.1 hc
    refine x_msk [true, false, true, false] ?_
    exact h
  · have h := h.2 hc
    refine x_iload_n (tk K_X1_permitsFirst 33 rfl) rfl rfl ?_
    refine x_if_ne (t := 102) (tk K_X1_permitsFirst 34 rfl) rfl (fun hc => ?_) (fun hc => ?_)
    · have h := h.1 hc
      refine x_msk [true, false, true, false] ?_
      exact h
    · have h := h.2 hc
      refine x_aload_n (tk K_X1_permitsFirst 35 rfl) rfl rfl ?_
      refine x_getRc (tk K_X1_permitsFirst 36 rfl) f_X1_50 rfl (GaS.o hS) (GaS.r0 hS) ?_
      refine x_callV0 (As := []) (S := []) (tk K_X1_permitsFirst 37 rfl) mk_X1_107 mo_X0_next (CuS.o (GaS.k0 hS)) rfl rfl (Nat.le_of_ble_eq_true rfl) hd h (fun r M1 hq => ?_)
      obtain ⟨x1, rfl, hE, h⟩ := hq
      have hT0 := GaS.ext hS hE
      have hT1 := CuS.ext (GaS.k0 hS) hE
      refine x_if_eq (t := 102) (tk K_X1_permitsFirst 38 rfl) rfl (fun hc => ?_) (fun hc => ?_)
      · have h := h.1 hc
        refine x_msk [true, false, true, false] ?_
        exact h
      · have h := h.2 hc
        refine x_aload_n (tk K_X1_permitsFirst 39 rfl) rfl rfl ?_
        refine x_getRc (tk K_X1_permitsFirst 40 rfl) f_X1_50 rfl (GaS.o hT0) (GaS.r0 hT0) ?_
        refine x_iconst (tk K_X1_permitsFirst 41 rfl) ic_2 ?_
        refine x_callV0 (As := [vI _]) (S := []) (tk K_X1_permitsFirst 42 rfl) mk_X1_144 mo_X0_number (CuS.o (GaS.k0 hT0)) rfl rfl (Nat.le_of_ble_eq_true rfl) hd h (fun r M2 hq => ?_)
        obtain ⟨x2, rfl, hE, h⟩ := hq
        have hT2 := GaS.ext hT0 hE
        have hT3 := CuS.ext (GaS.k0 hT0) hE
        refine x_iload_n (tk K_X1_permitsFirst 43 rfl) rfl rfl ?_
        refine x_icmp_le (t := 94) (tk K_X1_permitsFirst 44 rfl) rfl (fun hc => ?_) (fun hc => ?_)
        · have h := h.1 hc
          refine x_iconst (tk K_X1_permitsFirst 47 rfl) ic_0 ?_
          refine x_istore_n (L' := [some (vR _), some (vI _), some (vI _), some (vI _)]) (tk K_X1_permitsFirst 48 rfl) rfl rfl (Nat.le_of_ble_eq_true rfl) rfl ?_
          refine x_iincW (L' := [some (vR _), some (vI _), some (vI _), some (vI _)]) (tk K_X1_permitsFirst 49 rfl) rfl ic_1 rfl (Nat.le_of_ble_eq_true rfl) rfl ?_
          refine x_goto (t := 58) (tk K_X1_permitsFirst 50 rfl) rfl ?_
          exact h
        · have h := h.2 hc
          refine x_iconst (tk K_X1_permitsFirst 45 rfl) ic_1 ?_
          refine x_goto (t := 95) (tk K_X1_permitsFirst 46 rfl) rfl ?_
          refine x_istore_n (L' := [some (vR _), some (vI _), some (vI _), some (vI _)]) (tk K_X1_permitsFirst 48 rfl) rfl rfl (Nat.le_of_ble_eq_true rfl) rfl ?_
          refine x_iincW (L' := [some (vR _), some (vI _), some (vI _), some (vI _)]) (tk K_X1_permitsFirst 49 rfl) rfl ic_1 rfl (Nat.le_of_ble_eq_true rfl) rfl ?_
          refine x_goto (t := 58) (tk K_X1_permitsFirst 50 rfl) rfl ?_
          exact h

theorem b_X1_permitsFirst_102 {X : Cx} {d kc ns : Nat} {M : Mem} {Q : Option AV → Mem → Prop} {l0 : Nat} {l2 : Int32} (hS : GaS M l0)
    (h : ((¬ l2 = nI 0 → Q (some (vI (nI 1))) M) ∧ (l2 = nI 0 → (((mI M l0 11) = nI 0 → Q (some (vI (nI 0))) M) ∧ (¬ (mI M l0 11) = nI 0 → Q (some (vI (nI 1))) M))))) :
    WA X d kc ns m_X1_permitsFirst 102 [some (vR l0), none, some (vI l2), none] [] M Q := by
  refine x_iload_n (tk K_X1_permitsFirst 51 rfl) rfl rfl ?_
  refine x_if_ne (t := 113) (tk K_X1_permitsFirst 52 rfl) rfl (fun hc => ?_) (fun hc => ?_)
  · have h := h.1 hc
    refine x_iconst (tk K_X1_permitsFirst 56 rfl) ic_1 ?_
    refine x_goto (t := 118) (tk K_X1_permitsFirst 57 rfl) rfl ?_
    exact x_ireturn (tk K_X1_permitsFirst 59 rfl) rfl (fitZ (Or.inr rfl)).1 h
  · have h := h.2 hc
    refine x_aload_n (tk K_X1_permitsFirst 53 rfl) rfl rfl ?_
    refine x_getI (tk K_X1_permitsFirst 54 rfl) f_X1_34 rfl (GaS.o hS) ?_
    refine x_if_eq (t := 117) (tk K_X1_permitsFirst 55 rfl) rfl (fun hc => ?_) (fun hc => ?_)
    · have h := h.1 hc
      refine x_iconst (tk K_X1_permitsFirst 58 rfl) ic_0 ?_
      exact x_ireturn (tk K_X1_permitsFirst 59 rfl) rfl (fitZ (Or.inl rfl)).1 h
    · have h := h.2 hc
      refine x_iconst (tk K_X1_permitsFirst 56 rfl) ic_1 ?_
      refine x_goto (t := 118) (tk K_X1_permitsFirst 57 rfl) rfl ?_
      exact x_ireturn (tk K_X1_permitsFirst 59 rfl) rfl (fitZ (Or.inr rfl)).1 h

theorem e_X1_permitsFirst {X : Cx} {d kc ns : Nat} {M : Mem} {Q : Option AV → Mem → Prop} {a0 : Nat} {a1 : Int32} (h : WA X d kc ns m_X1_permitsFirst 0 [some (vR a0), some (vI a1), none, none] [] M Q) : Cl X d kc ns m_X1_permitsFirst [vR a0, vI a1] M Q := Cl.intro (k := 2) (by decide) rfl rfl h

-- TwoPencils$Game.takeBack()V
theorem b_X1_takeBack_0 {X : Cx} {d kc ns : Nat} {M : Mem} {Q : Option AV → Mem → Prop} {l0 : Nat} (hS : GaS M l0) (hd : 1 ≤ d)
    (h : ∀ x1 : Int32, x1 = ((mI M l0 5) - (nI 1)) → Cl X (d - 1) 0 0 m_X1_start [vR l0, vR (mR M l0 2), vR (mR M l0 3)] M (fun r M1 => r = none ∧ Ext M M1 ∧ WA X d kc ns m_X1_takeBack 21 [some (vR l0), some (vI x1), some (vI (nI 0))] [] M1 Q)) :
    WA X d kc ns m_X1_takeBack 0 [some (vR l0), none, none] [] M Q := by
  refine x_aload_n (tk K_X1_takeBack 0 rfl) rfl rfl ?_
  refine x_getI (tk K_X1_takeBack 1 rfl) f_X1_15 rfl (GaS.o hS) ?_
  refine x_iconst (tk K_X1_takeBack 2 rfl) ic_1 ?_
  refine x_isub (tk K_X1_takeBack 3 rfl) ?_
  have h := h _ rfl
  refine x_istore_n (L' := [some (vR _), some (vI _), none]) (tk K_X1_takeBack 4 rfl) rfl rfl (Nat.le_of_ble_eq_true rfl) rfl ?_
  refine x_aload_n (tk K_X1_takeBack 5 rfl) rfl rfl ?_
  refine x_aload_n (tk K_X1_takeBack 6 rfl) rfl rfl ?_
  refine x_getR (tk K_X1_takeBack 7 rfl) f_X1_58 rfl (GaS.o hS) ?_
  refine x_aload_n (tk K_X1_takeBack 8 rfl) rfl rfl ?_
  refine x_getR (tk K_X1_takeBack 9 rfl) f_X1_62 rfl (GaS.o hS) ?_
  refine x_callV0 (As := [vR _, vR _]) (S := []) (tk K_X1_takeBack 10 rfl) mk_X1_148 mo_X1_start (GaS.o hS) rfl rfl (Nat.le_of_ble_eq_true rfl) hd h (fun r M1 hq => ?_)
  obtain ⟨rfl, hE, h⟩ := hq
  have hT0 := GaS.ext hS hE
  refine x_iconst (tk K_X1_takeBack 11 rfl) ic_0 ?_
  refine x_istore_n (L' := [some (vR _), some (vI _), some (vI _)]) (tk K_X1_takeBack 12 rfl) rfl rfl (Nat.le_of_ble_eq_true rfl) rfl ?_
  exact h

theorem b_X1_takeBack_21 {X : Cx} {d kc ns : Nat} {M : Mem} {Q : Option AV → Mem → Prop} {l0 : Nat} {l1 : Int32} {l2 : Int32} (hS : GaS M l0) (hd : 1 ≤ d)
    (h : ((l1 ≤ l2 → Q none M) ∧ (¬ l1 ≤ l2 → vp_in l2 8 ∧ Cl X (d - 1) 0 0 m_X1_play [vR l0, vI (mI M (l0 + 1) (ix l2))] M (fun r M1 => r = none ∧ Ext M M1 ∧ WA X d kc ns m_X1_takeBack 21 [some (vR l0), some (vI l1), some (vI (l2 + (nI 1)))] [] M1 Q)))) :
    WA X d kc ns m_X1_takeBack 21 [some (vR l0), some (vI l1), some (vI l2)] [] M Q := by
  refine x_iload_n (tk K_X1_takeBack 13 rfl) rfl rfl ?_
  refine x_iload_n (tk K_X1_takeBack 14 rfl) rfl rfl ?_
  refine x_icmp_ge (t := 42) (tk K_X1_takeBack 15 rfl) rfl (fun hc => ?_) (fun hc => ?_)
  · have h := h.1 hc
    exact x_return (tk K_X1_takeBack 24 rfl) rfl h
  · have h := h.2 hc
    refine x_aload_n (tk K_X1_takeBack 16 rfl) rfl rfl ?_
    refine x_aload_n (tk K_X1_takeBack 17 rfl) rfl rfl ?_
    refine x_getRc (tk K_X1_takeBack 18 rfl) f_X1_11 rfl (GaS.o hS) (GaS.r4 hS) ?_
    refine x_iload_n (tk K_X1_takeBack 19 rfl) rfl rfl ?_
    have hi := h.1
    have h := h.2
    refine x_iald (tk K_X1_takeBack 20 rfl) (GaS.k4 hS) hi ?_
    refine x_callV0 (As := [vI _]) (S := []) (tk K_X1_takeBack 21 rfl) mk_X1_152 mo_X1_play (GaS.o hS) rfl rfl (Nat.le_of_ble_eq_true rfl) hd h (fun r M1 hq => ?_)
    obtain ⟨rfl, hE, h⟩ := hq
    have hT0 := GaS.ext hS hE
    have hT1 := hE.1 _ _ _ (GaS.k4 hS)
    refine x_iincW (L' := [some (vR _), some (vI _), some (vI _)]) (tk K_X1_takeBack 22 rfl) rfl ic_1 rfl (Nat.le_of_ble_eq_true rfl) rfl ?_
    refine x_goto (t := 21) (tk K_X1_takeBack 23 rfl) rfl ?_
    exact h

theorem e_X1_takeBack {X : Cx} {d kc ns : Nat} {M : Mem} {Q : Option AV → Mem → Prop} {a0 : Nat} (h : WA X d kc ns m_X1_takeBack 0 [some (vR a0), none, none] [] M Q) : Cl X d kc ns m_X1_takeBack [vR a0] M Q := Cl.intro (k := 2) (by decide) rfl rfl h

-- TwoPencils$Game.play(I)V
theorem b_X1_play_0 {X : Cx} {d kc ns : Nat} {M : Mem} {Q : Option AV → Mem → Prop} {l0 : Nat} {l1 : Int32} (hS : GaS M l0) (hd : 1 ≤ d)
    (h : (((mI M l0 5) < (nI 8) → vp_in (mI M l0 5) 8 ∧ ∀ M1 : Mem, M1 = sI M (l0 + 1) (ix (mI M l0 5)) l1 → ∀ M2 : Mem, M2 = sI M1 l0 5 ((mI M1 l0 5) + (nI 1)) → ∀ x1 : Int32, x1 = (mI M2 l0 10) → (((x1.toInt < 0 ∨ 7 < x1.toInt) → Q none M2) ∧ (x1.toInt = 0 → LaS M2 (mR M2 l0 2) ∧ Cl X (d - 1) 0 0 m_X3_split [vR (mR M2 l0 2), vI l1, vI (nI 2), vI (mI M2 l0 8), vI (mI M2 l0 9), vR (l0 + 3)] M2 (fun r M3 => ∃ x2 : Int32, r = some (vI x2) ∧ Ext M2 M3 ∧ ∀ M4 : Mem, M4 = sI M3 l0 10 (nI 1) → Q none M4)) ∧ (x1.toInt = 1 → Cl X (d - 1) 0 0 m_X1_keepSeat [vR l0, vI l1] M2 (fun r M5 => r = none ∧ Ext M2 M5 ∧ Cl X (d - 1) 0 0 m_X1_enterRound [vR l0] M5 (fun r M6 => r = none ∧ Ext M5 M6 ∧ Q none M6))) ∧ (x1.toInt = 2 → WA X d kc ns m_X1_play 219 [some (vR l0), some (vI l1)] [] M2 Q) ∧ (x1.toInt = 3 → LaS M2 (mR M2 l0 2) ∧ Cl X (d - 1) 0 0 m_X3_split [vR (mR M2 l0 2), vI l1, vI (nI 3), vI (mI M2 l0 8), vI ((nI 2) * (mI M2 l0 9)), vR (l0 + 3)] M2 (fun r M7 => ∃ x3 : Int32, r = some (vI x3) ∧ Ext M2 M7 ∧ ∀ M8 : Mem, M8 = sI M7 l0 10 (nI 4) → Q none M8)) ∧ (x1.toInt = 4 → WA X d kc ns m_X1_play 219 [some (vR l0), some (vI l1)] [] M2 Q) ∧ (x1.toInt = 5 → ∀ M9 : Mem, M9 = sI M2 l0 14 l1 → (((mI M9 l0 11) = nI 0 → ∀ M10 : Mem, M10 = sI M9 l0 10 (nI 6) → Q none M10) ∧ (¬ (mI M9 l0 11) = nI 0 → Cl X (d - 1) 0 0 m_X1_keepCut [vR l0, vI l1] M9 (fun r M11 => r = none ∧ Ext M9 M11 ∧ Q none M11)))) ∧ (x1.toInt = 6 → ∀ M12 : Mem, M12 = sI M2 l0 15 l1 → ∀ M13 : Mem, M13 = sI M12 l0 10 (nI 7) → Q none M13) ∧ (x1.toInt = 7 → ((¬ l1 = nI 0 → WA X d kc ns m_X1_play 213 [some (vR l0), none] [vI (mI M2 l0 15), vR l0] M2 Q) ∧ (l1 = nI 0 → WA X d kc ns m_X1_play 213 [some (vR l0), none] [vI (mI M2 l0 14), vR l0] M2 Q))))) ∧ (¬ (mI M l0 5) < (nI 8) → Q none M))) :
    WA X d kc ns m_X1_play 0 [some (vR l0), some (vI l1)] [] M Q := by
  refine x_aload_n (tk K_X1_play 0 rfl) rfl rfl ?_
  refine x_getI (tk K_X1_play 1 rfl) f_X1_15 rfl (GaS.o hS) ?_
  refine x_bipush (tk K_X1_play 2 rfl) bp_8 ?_
  refine x_icmp_lt (t := 10) (tk K_X1_play 3 rfl) rfl (fun hc => ?_) (fun hc => ?_)
  · have h := h.1 hc
    refine x_aload_n (tk K_X1_play 5 rfl) rfl rfl ?_
    refine x_getRc (tk K_X1_play 6 rfl) f_X1_11 rfl (GaS.o hS) (GaS.r4 hS) ?_
    refine x_aload_n (tk K_X1_play 7 rfl) rfl rfl ?_
    refine x_getI (tk K_X1_play 8 rfl) f_X1_15 rfl (GaS.o hS) ?_
    refine x_iload_n (tk K_X1_play 9 rfl) rfl rfl ?_
    have hi := h.1
    have h := h.2
    have h := h _ rfl
    refine x_iast (tk K_X1_play 10 rfl) (GaS.k4 hS) hi ?_
    refine x_aload_n (tk K_X1_play 11 rfl) rfl rfl ?_
    refine x_dup (tk K_X1_play 12 rfl) rfl ?_
    refine x_getI (tk K_X1_play 13 rfl) f_X1_15 rfl (GaS.o hS) ?_
    refine x_iconst (tk K_X1_play 14 rfl) ic_1 ?_
    refine x_iadd (tk K_X1_play 15 rfl) ?_
    have h := h _ rfl
    refine x_putI (tk K_X1_play 16 rfl) f_X1_15 rfl (Or.inl rfl) (GaS.o hS) ?_
    refine x_aload_n (tk K_X1_play 17 rfl) rfl rfl ?_
    refine x_getI (tk K_X1_play 18 rfl) f_X1_31 rfl (GaS.o hS) ?_
    have h := h _ rfl
    refine x_table (td := 227) (tk K_X1_play 19 rfl) rfl (fun hc => ?_) (fun k hk hk2 => ?_)
    · have h := h.1 hc
      exact x_return (tk K_X1_play 95 rfl) rfl h
    · rcases (show k = 0 ∨ k = 1 ∨ k = 2 ∨ k = 3 ∨ k = 4 ∨ k = 5 ∨ k = 6 ∨ k = 7 by omega) with rfl | rfl | rfl | rfl | rfl | rfl | rfl | rfl
      · refine ⟨46, 80, rfl, rfl, ?_⟩
        have h := h.2.1 (by omega)
        refine x_aload_n (tk K_X1_play 20 rfl) rfl rfl ?_
        refine x_getR (tk K_X1_play 21 rfl) f_X1_58 rfl (GaS.o hS) ?_
        refine x_iload_n (tk K_X1_play 22 rfl) rfl rfl ?_
        refine x_iconst (tk K_X1_play 23 rfl) ic_2 ?_
        refine x_aload_n (tk K_X1_play 24 rfl) rfl rfl ?_
        refine x_getI (tk K_X1_play 25 rfl) f_X1_25 rfl (GaS.o hS) ?_
        refine x_aload_n (tk K_X1_play 26 rfl) rfl rfl ?_
        refine x_getI (tk K_X1_play 27 rfl) f_X1_28 rfl (GaS.o hS) ?_
        refine x_aload_n (tk K_X1_play 28 rfl) rfl rfl ?_
        refine x_getRc (tk K_X1_play 29 rfl) f_X1_38 rfl (GaS.o hS) (GaS.r12 hS) ?_
        have hS_2 := h.1
        have h := h.2
        refine x_callV0 (As := [vI _, vI _, vI _, vI _, vR _]) (S := []) (tk K_X1_play 30 rfl) mk_X1_137 mo_X3_split (LaS.o hS_2) rfl rfl (Nat.le_of_ble_eq_true rfl) hd h (fun r M3 hq => ?_)
        obtain ⟨x2, rfl, hE, h⟩ := hq
        have hT0 := GaS.ext hS hE
        have hT1 := LaS.ext hS_2 hE
        have hT2 := hE.1 _ _ _ (GaS.k4 hS)
        have hT3 := hE.1 _ _ _ (GaS.k12 hS)
        refine x_pop (tk K_X1_play 31 rfl) rfl ?_
        refine x_aload_n (tk K_X1_play 32 rfl) rfl rfl ?_
        refine x_iconst (tk K_X1_play 33 rfl) ic_1 ?_
        have h := h _ rfl
        refine x_putI (tk K_X1_play 34 rfl) f_X1_31 rfl (Or.inl rfl) (GaS.o hT0) ?_
        refine x_goto (t := 227) (tk K_X1_play 35 rfl) rfl ?_
        exact x_return (tk K_X1_play 95 rfl) rfl h
      · refine ⟨76, 110, rfl, rfl, ?_⟩
        have h := h.2.2.1 (by omega)
        refine x_aload_n (tk K_X1_play 36 rfl) rfl rfl ?_
        refine x_iload_n (tk K_X1_play 37 rfl) rfl rfl ?_
        refine x_callV0 (As := [vI _]) (S := []) (tk K_X1_play 38 rfl) mk_X1_156 mo_X1_keepSeat (GaS.o hS) rfl rfl (Nat.le_of_ble_eq_true rfl) hd h (fun r M5 hq => ?_)
        obtain ⟨rfl, hE, h⟩ := hq
        have hT4 := GaS.ext hS hE
        have hT5 := hE.1 _ _ _ (GaS.k4 hS)
        refine x_aload_n (tk K_X1_play 39 rfl) rfl rfl ?_
        refine x_callV0 (As := []) (S := []) (tk K_X1_play 40 rfl) mk_X1_74 mo_X1_enterRound (GaS.o hT4) rfl rfl (Nat.le_of_ble_eq_true rfl) hd h (fun r M6 hq => ?_)
        obtain ⟨rfl, hE, h⟩ := hq
        have hT6 := GaS.ext hT4 hE
        have hT7 := hE.1 _ _ _ hT5
        refine x_goto (t := 227) (tk K_X1_play 41 rfl) rfl ?_
        exact x_return (tk K_X1_play 95 rfl) rfl h
      · refine ⟨185, 219, rfl, rfl, ?_⟩
        have h := h.2.2.2.1 (by omega)
        exact h
      · refine ⟨88, 122, rfl, rfl, ?_⟩
        have h := h.2.2.2.2.1 (by omega)
        refine x_aload_n (tk K_X1_play 42 rfl) rfl rfl ?_
        refine x_getR (tk K_X1_play 43 rfl) f_X1_58 rfl (GaS.o hS) ?_
        refine x_iload_n (tk K_X1_play 44 rfl) rfl rfl ?_
        refine x_iconst (tk K_X1_play 45 rfl) ic_3 ?_
        refine x_aload_n (tk K_X1_play 46 rfl) rfl rfl ?_
        refine x_getI (tk K_X1_play 47 rfl) f_X1_25 rfl (GaS.o hS) ?_
        refine x_iconst (tk K_X1_play 48 rfl) ic_2 ?_
        refine x_aload_n (tk K_X1_play 49 rfl) rfl rfl ?_
        refine x_getI (tk K_X1_play 50 rfl) f_X1_28 rfl (GaS.o hS) ?_
        refine x_imul (tk K_X1_play 51 rfl) ?_
        refine x_aload_n (tk K_X1_play 52 rfl) rfl rfl ?_
        refine x_getRc (tk K_X1_play 53 rfl) f_X1_38 rfl (GaS.o hS) (GaS.r12 hS) ?_
        have hS_22 := h.1
        have h := h.2
        refine x_callV0 (As := [vI _, vI _, vI _, vI _, vR _]) (S := []) (tk K_X1_play 54 rfl) mk_X1_137 mo_X3_split (LaS.o hS_22) rfl rfl (Nat.le_of_ble_eq_true rfl) hd h (fun r M7 hq => ?_)
        obtain ⟨x3, rfl, hE, h⟩ := hq
        have hT8 := GaS.ext hS hE
        have hT9 := LaS.ext hS_22 hE
        have hT10 := hE.1 _ _ _ (GaS.k4 hS)
        have hT11 := hE.1 _ _ _ (GaS.k12 hS)
        refine x_pop (tk K_X1_play 55 rfl) rfl ?_
        refine x_aload_n (tk K_X1_play 56 rfl) rfl rfl ?_
        refine x_iconst (tk K_X1_play 57 rfl) ic_4 ?_
        have h := h _ rfl
        refine x_putI (tk K_X1_play 58 rfl) f_X1_31 rfl (Or.inl rfl) (GaS.o hT8) ?_
        refine x_goto (t := 227) (tk K_X1_play 59 rfl) rfl ?_
        exact x_return (tk K_X1_play 95 rfl) rfl h
      · refine ⟨185, 219, rfl, rfl, ?_⟩
        have h := h.2.2.2.2.2.1 (by omega)
        exact h
      · refine ⟨120, 154, rfl, rfl, ?_⟩
        have h := h.2.2.2.2.2.2.1 (by omega)
        refine x_aload_n (tk K_X1_play 60 rfl) rfl rfl ?_
        refine x_iload_n (tk K_X1_play 61 rfl) rfl rfl ?_
        have h := h _ rfl
        refine x_putI (tk K_X1_play 62 rfl) f_X1_44 rfl (Or.inl rfl) (GaS.o hS) ?_
        refine x_aload_n (tk K_X1_play 63 rfl) rfl rfl ?_
        refine x_getI (tk K_X1_play 64 rfl) f_X1_34 rfl (GaS.o hS) ?_
        refine x_if_eq (t := 174) (tk K_X1_play 65 rfl) rfl (fun hc => ?_) (fun hc => ?_)
        · have h := h.1 hc
          refine x_aload_n (tk K_X1_play 70 rfl) rfl rfl ?_
          refine x_bipush (tk K_X1_play 71 rfl) bp_6 ?_
          have h := h _ rfl
          refine x_putI (tk K_X1_play 72 rfl) f_X1_31 rfl (Or.inl rfl) (GaS.o hS) ?_
          refine x_goto (t := 227) (tk K_X1_play 73 rfl) rfl ?_
          exact x_return (tk K_X1_play 95 rfl) rfl h
        · have h := h.2 hc
          refine x_aload_n (tk K_X1_play 66 rfl) rfl rfl ?_
          refine x_iload_n (tk K_X1_play 67 rfl) rfl rfl ?_
          refine x_callV0 (As := [vI _]) (S := []) (tk K_X1_play 68 rfl) mk_X1_159 mo_X1_keepCut (GaS.o hS) rfl rfl (Nat.le_of_ble_eq_true rfl) hd h (fun r M11 hq => ?_)
          obtain ⟨rfl, hE, h⟩ := hq
          have hT12 := GaS.ext hS hE
          have hT13 := hE.1 _ _ _ (GaS.k4 hS)
          refine x_goto (t := 227) (tk K_X1_play 69 rfl) rfl ?_
          exact x_return (tk K_X1_play 95 rfl) rfl h
      · refine ⟨149, 183, rfl, rfl, ?_⟩
        have h := h.2.2.2.2.2.2.2.1 (by omega)
        refine x_aload_n (tk K_X1_play 74 rfl) rfl rfl ?_
        refine x_iload_n (tk K_X1_play 75 rfl) rfl rfl ?_
        have h := h _ rfl
        refine x_putI (tk K_X1_play 76 rfl) f_X1_47 rfl (Or.inl rfl) (GaS.o hS) ?_
        refine x_aload_n (tk K_X1_play 77 rfl) rfl rfl ?_
        refine x_bipush (tk K_X1_play 78 rfl) bp_7 ?_
        have h := h _ rfl
        refine x_putI (tk K_X1_play 79 rfl) f_X1_31 rfl (Or.inl rfl) (GaS.o hS) ?_
        refine x_goto (t := 227) (tk K_X1_play 80 rfl) rfl ?_
        exact x_return (tk K_X1_play 95 rfl) rfl h
      · refine ⟨163, 197, rfl, rfl, ?_⟩
        have h := h.2.2.2.2.2.2.2.2 (by omega)
        refine x_aload_n (tk K_X1_play 81 rfl) rfl rfl ?_
        refine x_iload_n (tk K_X1_play 82 rfl) rfl rfl ?_
        refine x_if_ne (t := 209) (tk K_X1_play 83 rfl) rfl (fun hc => ?_) (fun hc => ?_)
        · have h := h.1 hc
          refine x_aload_n (tk K_X1_play 87 rfl) rfl rfl ?_
          refine x_getI (tk K_X1_play 88 rfl) f_X1_47 rfl (GaS.o hS) ?_
          refine x_msk [true, false] ?_
          exact h
        · have h := h.2 hc
          refine x_aload_n (tk K_X1_play 84 rfl) rfl rfl ?_
          refine x_getI (tk K_X1_play 85 rfl) f_X1_44 rfl (GaS.o hS) ?_
          refine x_goto (t := 213) (tk K_X1_play 86 rfl) rfl ?_
          refine x_msk [true, false] ?_
          exact h
  · have h := h.2 hc
    exact x_return (tk K_X1_play 4 rfl) rfl h

theorem b_X1_play_213 {X : Cx} {d kc ns : Nat} {M : Mem} {Q : Option AV → Mem → Prop} {l0 : Nat} {s1 : Int32} (hS : GaS M l0) (hd : 1 ≤ d)
    (h : Cl X (d - 1) 0 0 m_X1_keepCut [vR l0, vI s1] M (fun r M1 => r = none ∧ Ext M M1 ∧ Q none M1)) :
    WA X d kc ns m_X1_play 213 [some (vR l0), none] [vI s1, vR l0] M Q := by
  refine x_callV0 (As := [vI _]) (S := []) (tk K_X1_play 89 rfl) mk_X1_159 mo_X1_keepCut (GaS.o hS) rfl rfl (Nat.le_of_ble_eq_true rfl) hd h (fun r M1 hq => ?_)
  obtain ⟨rfl, hE, h⟩ := hq
  have hT0 := GaS.ext hS hE
  refine x_goto (t := 227) (tk K_X1_play 90 rfl) rfl ?_
  exact x_return (tk K_X1_play 95 rfl) rfl h

theorem b_X1_play_219 {X : Cx} {d kc ns : Nat} {M : Mem} {Q : Option AV → Mem → Prop} {l0 : Nat} {l1 : Int32} (hS : GaS M l0) (hd : 1 ≤ d)
    (h : Cl X (d - 1) 0 0 m_X1_keepCut [vR l0, vI l1] M (fun r M1 => r = none ∧ Ext M M1 ∧ Q none M1)) :
    WA X d kc ns m_X1_play 219 [some (vR l0), some (vI l1)] [] M Q := by
  refine x_aload_n (tk K_X1_play 91 rfl) rfl rfl ?_
  refine x_iload_n (tk K_X1_play 92 rfl) rfl rfl ?_
  refine x_callV0 (As := [vI _]) (S := []) (tk K_X1_play 93 rfl) mk_X1_159 mo_X1_keepCut (GaS.o hS) rfl rfl (Nat.le_of_ble_eq_true rfl) hd h (fun r M1 hq => ?_)
  obtain ⟨rfl, hE, h⟩ := hq
  have hT0 := GaS.ext hS hE
  refine x_goto (t := 227) (tk K_X1_play 94 rfl) rfl ?_
  exact x_return (tk K_X1_play 95 rfl) rfl h

theorem e_X1_play {X : Cx} {d kc ns : Nat} {M : Mem} {Q : Option AV → Mem → Prop} {a0 : Nat} {a1 : Int32} (h : WA X d kc ns m_X1_play 0 [some (vR a0), some (vI a1)] [] M Q) : Cl X d kc ns m_X1_play [vR a0, vI a1] M Q := Cl.intro (k := 0) (by decide) rfl rfl h

-- TwoPencils$Game.keepSeat(I)V
theorem b_X1_keepSeat_0 {X : Cx} {d kc ns : Nat} {M : Mem} {Q : Option AV → Mem → Prop} {l0 : Nat} {l1 : Int32} (hS : GaS M l0)
    (h : ((l1 < nI 0 → Q none M) ∧ (¬ l1 < nI 0 → (((nI 8) ≤ l1 → Q none M) ∧ (¬ (nI 8) ≤ l1 → (((nI 4) ≤ (mI M l0 7) → Q none M) ∧ (¬ (nI 4) ≤ (mI M l0 7) → (((mI M l0 9) ≤ nI 0 → Q none M) ∧ (¬ (mI M l0 9) ≤ nI 0 → vp_in l1 8 ∧ vp_in (mI M l0 7) 4 ∧ ∀ M1 : Mem, M1 = sI M (l0 + 2) (ix (mI M l0 7)) (mI M (l0 + 3) (ix l1)) → ∀ M2 : Mem, M2 = sI M1 l0 7 ((mI M1 l0 7) + (nI 1)) → vp_in l1 8 ∧ ∀ M3 : Mem, M3 = sI M2 l0 8 ((mI M2 l0 8) &&& ((mI M2 (l0 + 3) (ix l1)) ^^^ (-1))) → ∀ M4 : Mem, M4 = sI M3 l0 9 ((mI M3 l0 9) - (nI 1)) → Q none M4))))))))) :
    WA X d kc ns m_X1_keepSeat 0 [some (vR l0), some (vI l1)] [] M Q := by
  refine x_iload_n (tk K_X1_keepSeat 0 rfl) rfl rfl ?_
  refine x_if_lt (t := 80) (tk K_X1_keepSeat 1 rfl) rfl (fun hc => ?_) (fun hc => ?_)
  · have h := h.1 hc
    exact x_return (tk K_X1_keepSeat 46 rfl) rfl h
  · have h := h.2 hc
    refine x_iload_n (tk K_X1_keepSeat 2 rfl) rfl rfl ?_
    refine x_aload_n (tk K_X1_keepSeat 3 rfl) rfl rfl ?_
    refine x_getRc (tk K_X1_keepSeat 4 rfl) f_X1_38 rfl (GaS.o hS) (GaS.r12 hS) ?_
    refine x_alen (tk K_X1_keepSeat 5 rfl) (GaS.k12 hS) rfl ?_
    refine x_icmp_ge (t := 80) (tk K_X1_keepSeat 6 rfl) rfl (fun hc => ?_) (fun hc => ?_)
    · have h := h.1 hc
      exact x_return (tk K_X1_keepSeat 46 rfl) rfl h
    · have h := h.2 hc
      refine x_aload_n (tk K_X1_keepSeat 7 rfl) rfl rfl ?_
      refine x_getI (tk K_X1_keepSeat 8 rfl) f_X1_22 rfl (GaS.o hS) ?_
      refine x_iconst (tk K_X1_keepSeat 9 rfl) ic_4 ?_
      refine x_icmp_ge (t := 80) (tk K_X1_keepSeat 10 rfl) rfl (fun hc => ?_) (fun hc => ?_)
      · have h := h.1 hc
        exact x_return (tk K_X1_keepSeat 46 rfl) rfl h
      · have h := h.2 hc
        refine x_aload_n (tk K_X1_keepSeat 11 rfl) rfl rfl ?_
        refine x_getI (tk K_X1_keepSeat 12 rfl) f_X1_28 rfl (GaS.o hS) ?_
        refine x_if_le (t := 80) (tk K_X1_keepSeat 13 rfl) rfl (fun hc => ?_) (fun hc => ?_)
        · have h := h.1 hc
          exact x_return (tk K_X1_keepSeat 46 rfl) rfl h
        · have h := h.2 hc
          refine x_aload_n (tk K_X1_keepSeat 14 rfl) rfl rfl ?_
          refine x_getRc (tk K_X1_keepSeat 15 rfl) f_X1_19 rfl (GaS.o hS) (GaS.r6 hS) ?_
          refine x_aload_n (tk K_X1_keepSeat 16 rfl) rfl rfl ?_
          refine x_getI (tk K_X1_keepSeat 17 rfl) f_X1_22 rfl (GaS.o hS) ?_
          refine x_aload_n (tk K_X1_keepSeat 18 rfl) rfl rfl ?_
          refine x_getRc (tk K_X1_keepSeat 19 rfl) f_X1_38 rfl (GaS.o hS) (GaS.r12 hS) ?_
          refine x_iload_n (tk K_X1_keepSeat 20 rfl) rfl rfl ?_
          have hi := h.1
          have h := h.2
          refine x_iald (tk K_X1_keepSeat 21 rfl) (GaS.k12 hS) hi ?_
          have hi := h.1
          have h := h.2
          have h := h _ rfl
          refine x_iast (tk K_X1_keepSeat 22 rfl) (GaS.k6 hS) hi ?_
          refine x_aload_n (tk K_X1_keepSeat 23 rfl) rfl rfl ?_
          refine x_dup (tk K_X1_keepSeat 24 rfl) rfl ?_
          refine x_getI (tk K_X1_keepSeat 25 rfl) f_X1_22 rfl (GaS.o hS) ?_
          refine x_iconst (tk K_X1_keepSeat 26 rfl) ic_1 ?_
          refine x_iadd (tk K_X1_keepSeat 27 rfl) ?_
          have h := h _ rfl
          refine x_putI (tk K_X1_keepSeat 28 rfl) f_X1_22 rfl (Or.inl rfl) (GaS.o hS) ?_
          refine x_aload_n (tk K_X1_keepSeat 29 rfl) rfl rfl ?_
          refine x_dup (tk K_X1_keepSeat 30 rfl) rfl ?_
          refine x_getI (tk K_X1_keepSeat 31 rfl) f_X1_25 rfl (GaS.o hS) ?_
          refine x_aload_n (tk K_X1_keepSeat 32 rfl) rfl rfl ?_
          refine x_getRc (tk K_X1_keepSeat 33 rfl) f_X1_38 rfl (GaS.o hS) (GaS.r12 hS) ?_
          refine x_iload_n (tk K_X1_keepSeat 34 rfl) rfl rfl ?_
          have hi := h.1
          have h := h.2
          refine x_iald (tk K_X1_keepSeat 35 rfl) (GaS.k12 hS) hi ?_
          refine x_iconst (tk K_X1_keepSeat 36 rfl) ic_m1 ?_
          refine x_ixor (tk K_X1_keepSeat 37 rfl) ?_
          refine x_iand (tk K_X1_keepSeat 38 rfl) ?_
          have h := h _ rfl
          refine x_putI (tk K_X1_keepSeat 39 rfl) f_X1_25 rfl (Or.inl rfl) (GaS.o hS) ?_
          refine x_aload_n (tk K_X1_keepSeat 40 rfl) rfl rfl ?_
          refine x_dup (tk K_X1_keepSeat 41 rfl) rfl ?_
          refine x_getI (tk K_X1_keepSeat 42 rfl) f_X1_28 rfl (GaS.o hS) ?_
          refine x_iconst (tk K_X1_keepSeat 43 rfl) ic_1 ?_
          refine x_isub (tk K_X1_keepSeat 44 rfl) ?_
          have h := h _ rfl
          refine x_putI (tk K_X1_keepSeat 45 rfl) f_X1_28 rfl (Or.inl rfl) (GaS.o hS) ?_
          exact x_return (tk K_X1_keepSeat 46 rfl) rfl h

theorem e_X1_keepSeat {X : Cx} {d kc ns : Nat} {M : Mem} {Q : Option AV → Mem → Prop} {a0 : Nat} {a1 : Int32} (h : WA X d kc ns m_X1_keepSeat 0 [some (vR a0), some (vI a1)] [] M Q) : Cl X d kc ns m_X1_keepSeat [vR a0, vI a1] M Q := Cl.intro (k := 0) (by decide) rfl rfl h

-- TwoPencils$Game.keepCut(I)V
theorem b_X1_keepCut_0 {X : Cx} {d kc ns : Nat} {M : Mem} {Q : Option AV → Mem → Prop} {l0 : Nat} {l1 : Int32} (hS : GaS M l0) (hd : 1 ≤ d)
    (h : LaS M (mR M l0 2) ∧ Cl X (d - 1) 0 0 m_X3_split [vR (mR M l0 2), vI l1, vI (nI 2), vI (mI M l0 8), vI (mI M l0 9), vR (l0 + 3)] M (fun r M1 => ∃ x1 : Int32, r = some (vI x1) ∧ Ext M M1 ∧ ∀ x2 : Int32, x2 = (mI M1 l0 9) → WA X d kc ns m_X1_keepCut 29 [some (vR l0), none, some (vI x2), some (vI (nI 0))] [] M1 Q)) :
    WA X d kc ns m_X1_keepCut 0 [some (vR l0), some (vI l1), none, none] [] M Q := by
  refine x_aload_n (tk K_X1_keepCut 0 rfl) rfl rfl ?_
  refine x_getR (tk K_X1_keepCut 1 rfl) f_X1_58 rfl (GaS.o hS) ?_
  refine x_iload_n (tk K_X1_keepCut 2 rfl) rfl rfl ?_
  refine x_iconst (tk K_X1_keepCut 3 rfl) ic_2 ?_
  refine x_aload_n (tk K_X1_keepCut 4 rfl) rfl rfl ?_
  refine x_getI (tk K_X1_keepCut 5 rfl) f_X1_25 rfl (GaS.o hS) ?_
  refine x_aload_n (tk K_X1_keepCut 6 rfl) rfl rfl ?_
  refine x_getI (tk K_X1_keepCut 7 rfl) f_X1_28 rfl (GaS.o hS) ?_
  refine x_aload_n (tk K_X1_keepCut 8 rfl) rfl rfl ?_
  refine x_getRc (tk K_X1_keepCut 9 rfl) f_X1_38 rfl (GaS.o hS) (GaS.r12 hS) ?_
  have hS_2 := h.1
  have h := h.2
  refine x_callV0 (As := [vI _, vI _, vI _, vI _, vR _]) (S := []) (tk K_X1_keepCut 10 rfl) mk_X1_137 mo_X3_split (LaS.o hS_2) rfl rfl (Nat.le_of_ble_eq_true rfl) hd h (fun r M1 hq => ?_)
  obtain ⟨x1, rfl, hE, h⟩ := hq
  have hT0 := GaS.ext hS hE
  have hT1 := LaS.ext hS_2 hE
  have hT2 := hE.1 _ _ _ (GaS.k12 hS)
  refine x_pop (tk K_X1_keepCut 11 rfl) rfl ?_
  refine x_aload_n (tk K_X1_keepCut 12 rfl) rfl rfl ?_
  refine x_getI (tk K_X1_keepCut 13 rfl) f_X1_28 rfl (GaS.o hT0) ?_
  have h := h _ rfl
  refine x_istore_n (L' := [some (vR _), some (vI _), some (vI _), none]) (tk K_X1_keepCut 14 rfl) rfl rfl (Nat.le_of_ble_eq_true rfl) rfl ?_
  refine x_iconst (tk K_X1_keepCut 15 rfl) ic_0 ?_
  refine x_istore_n (L' := [some (vR _), some (vI _), some (vI _), some (vI _)]) (tk K_X1_keepCut 16 rfl) rfl rfl (Nat.le_of_ble_eq_true rfl) rfl ?_
  refine x_msk [true, false, true, true] ?_
  exact h

theorem b_X1_keepCut_29 {X : Cx} {d kc ns : Nat} {M : Mem} {Q : Option AV → Mem → Prop} {l0 : Nat} {l2 : Int32} {l3 : Int32} (hS : GaS M l0) (hd : 1 ≤ d)
    (h : ((l2 ≤ l3 → ∀ M1 : Mem, M1 = sI M l0 10 (nI 8) → Q none M1) ∧ (¬ l2 ≤ l3 → Cl X (d - 1) 0 0 m_X1_keepSeat [vR l0, vI l3] M (fun r M2 => r = none ∧ Ext M M2 ∧ WA X d kc ns m_X1_keepCut 29 [some (vR l0), none, some (vI l2), some (vI (l3 + (nI 1)))] [] M2 Q)))) :
    WA X d kc ns m_X1_keepCut 29 [some (vR l0), none, some (vI l2), some (vI l3)] [] M Q := by
  refine x_iload_n (tk K_X1_keepCut 17 rfl) rfl rfl ?_
  refine x_iload_n (tk K_X1_keepCut 18 rfl) rfl rfl ?_
  refine x_icmp_ge (t := 45) (tk K_X1_keepCut 19 rfl) rfl (fun hc => ?_) (fun hc => ?_)
  · have h := h.1 hc
    refine x_aload_n (tk K_X1_keepCut 25 rfl) rfl rfl ?_
    refine x_bipush (tk K_X1_keepCut 26 rfl) bp_8 ?_
    have h := h _ rfl
    refine x_putI (tk K_X1_keepCut 27 rfl) f_X1_31 rfl (Or.inl rfl) (GaS.o hS) ?_
    exact x_return (tk K_X1_keepCut 28 rfl) rfl h
  · have h := h.2 hc
    refine x_aload_n (tk K_X1_keepCut 20 rfl) rfl rfl ?_
    refine x_iload_n (tk K_X1_keepCut 21 rfl) rfl rfl ?_
    refine x_callV0 (As := [vI _]) (S := []) (tk K_X1_keepCut 22 rfl) mk_X1_156 mo_X1_keepSeat (GaS.o hS) rfl rfl (Nat.le_of_ble_eq_true rfl) hd h (fun r M2 hq => ?_)
    obtain ⟨rfl, hE, h⟩ := hq
    have hT0 := GaS.ext hS hE
    refine x_iincW (L' := [some (vR _), none, some (vI _), some (vI _)]) (tk K_X1_keepCut 23 rfl) rfl ic_1 rfl (Nat.le_of_ble_eq_true rfl) rfl ?_
    refine x_goto (t := 29) (tk K_X1_keepCut 24 rfl) rfl ?_
    exact h

theorem e_X1_keepCut {X : Cx} {d kc ns : Nat} {M : Mem} {Q : Option AV → Mem → Prop} {a0 : Nat} {a1 : Int32} (h : WA X d kc ns m_X1_keepCut 0 [some (vR a0), some (vI a1), none, none] [] M Q) : Cl X d kc ns m_X1_keepCut [vR a0, vI a1] M Q := Cl.intro (k := 2) (by decide) rfl rfl h

-- TwoPencils$Joiner.<init>(LTwoPencils$Land;)V
theorem b_X2_init_0 {X : Cx} {d kc ns : Nat} {M : Mem} {Q : Option AV → Mem → Prop} {l0 : Nat} {l1 : Nat} (hS : isK M l0 2 8) (hd : 1 ≤ d)
    (h : vp_in (nI 0) 65536 ∧ 1 ≤ kc ∧ ix (nI 0) ≤ ns ∧ ∀ M1 : Mem, M1 = nw M 14 (ix (nI 0)) → ∀ M2 : Mem, M2 = sR M1 l0 1 (nx M) → ∀ M3 : Mem, M3 = sI M2 l0 2 (nI 0) → ∀ M4 : Mem, M4 = sI M3 l0 3 (nI 0) → ∀ M5 : Mem, M5 = sI M4 l0 4 (nI 0) → vp_in (nI 4) 65536 ∧ 1 ≤ (kc - 1) ∧ ix (nI 4) ≤ (ns - ix (nI 0)) ∧ ∀ M6 : Mem, M6 = nw M5 14 (ix (nI 4)) → ∀ M7 : Mem, M7 = sR M6 l0 5 (nx M5) → ∀ M8 : Mem, M8 = sI M7 l0 6 (-1) → ∀ M9 : Mem, M9 = sI M8 l0 7 (nI 0) → ∀ M10 : Mem, M10 = sR M9 l0 0 l1 → Q none M10) :
    WA X d kc ns m_X2_init 0 [some (vR l0), some (vR l1)] [] M Q := by
  refine x_aload_n (tk K_X2_init 0 rfl) rfl rfl ?_
  refine x_objInit (tk K_X2_init 1 rfl) oi_X2_3 oi_in oi_code hS (by decide) hd ?_
  refine x_aload_n (tk K_X2_init 2 rfl) rfl rfl ?_
  refine x_iconst (tk K_X2_init 3 rfl) ic_0 ?_
  have hx := h.1
  have hk := h.2.1
  have hn := h.2.2.1
  have h := h.2.2.2
  refine x_newa (k := 14) (tk K_X2_init 4 rfl) rfl ac_14 hx hk hn ?_
  refine WA_nm (fun M1 e_M1 => ?_)
  have h := h M1 e_M1
  have hT1 : isK M1 (nx M) 14 (ix (nI 0)) := by rw [e_M1]; exact isK_nw
  have hT2 : isK M1 l0 2 8 := by rw [e_M1]; exact (isK_nw_old hS)
  refine x_putR (tk K_X2_init 5 rfl) f_X2_9 rfl rfl (Or.inl rfl) hT2 ?_
  refine WA_nm (fun M2 e_M2 => ?_)
  have h := h M2 e_M2
  have hT3 : isK M2 l0 2 8 := by rw [e_M2]; exact hT2
  refine x_aload_n (tk K_X2_init 6 rfl) rfl rfl ?_
  refine x_iconst (tk K_X2_init 7 rfl) ic_0 ?_
  refine x_putI (tk K_X2_init 8 rfl) f_X2_15 rfl (Or.inl rfl) hT3 ?_
  refine WA_nm (fun M3 e_M3 => ?_)
  have h := h M3 e_M3
  have hT4 : isK M3 l0 2 8 := by rw [e_M3]; exact hT3
  refine x_aload_n (tk K_X2_init 9 rfl) rfl rfl ?_
  refine x_iconst (tk K_X2_init 10 rfl) ic_0 ?_
  refine x_putI (tk K_X2_init 11 rfl) f_X2_19 rfl (Or.inl rfl) hT4 ?_
  refine WA_nm (fun M4 e_M4 => ?_)
  have h := h M4 e_M4
  have hT5 : isK M4 l0 2 8 := by rw [e_M4]; exact hT4
  refine x_aload_n (tk K_X2_init 12 rfl) rfl rfl ?_
  refine x_iconst (tk K_X2_init 13 rfl) ic_0 ?_
  refine x_putI (tk K_X2_init 14 rfl) f_X2_22 rfl (Or.inl rfl) hT5 ?_
  refine WA_nm (fun M5 e_M5 => ?_)
  have h := h M5 e_M5
  have hT6 : isK M5 l0 2 8 := by rw [e_M5]; exact hT5
  refine x_aload_n (tk K_X2_init 15 rfl) rfl rfl ?_
  refine x_iconst (tk K_X2_init 16 rfl) ic_4 ?_
  have hx := h.1
  have hk := h.2.1
  have hn := h.2.2.1
  have h := h.2.2.2
  refine x_newa (k := 14) (tk K_X2_init 17 rfl) rfl ac_14 hx hk hn ?_
  refine WA_nm (fun M6 e_M6 => ?_)
  have h := h M6 e_M6
  have hT8 : isK M6 (nx M5) 14 (ix (nI 4)) := by rw [e_M6]; exact isK_nw
  have hT9 : isK M6 l0 2 8 := by rw [e_M6]; exact (isK_nw_old hT6)
  refine x_putR (tk K_X2_init 18 rfl) f_X2_25 rfl rfl (Or.inr ⟨rfl, rfl, rfl, l_X2_25⟩) hT9 ?_
  refine WA_nm (fun M7 e_M7 => ?_)
  have h := h M7 e_M7
  have hT10 : isK M7 l0 2 8 := by rw [e_M7]; exact hT9
  refine x_aload_n (tk K_X2_init 19 rfl) rfl rfl ?_
  refine x_iconst (tk K_X2_init 20 rfl) ic_m1 ?_
  refine x_putI (tk K_X2_init 21 rfl) f_X2_28 rfl (Or.inl rfl) hT10 ?_
  refine WA_nm (fun M8 e_M8 => ?_)
  have h := h M8 e_M8
  have hT11 : isK M8 l0 2 8 := by rw [e_M8]; exact hT10
  refine x_aload_n (tk K_X2_init 22 rfl) rfl rfl ?_
  refine x_iconst (tk K_X2_init 23 rfl) ic_0 ?_
  refine x_putI (tk K_X2_init 24 rfl) f_X2_31 rfl (Or.inl rfl) hT11 ?_
  refine WA_nm (fun M9 e_M9 => ?_)
  have h := h M9 e_M9
  have hT12 : isK M9 l0 2 8 := by rw [e_M9]; exact hT11
  refine x_aload_n (tk K_X2_init 25 rfl) rfl rfl ?_
  refine x_aload_n (tk K_X2_init 26 rfl) rfl rfl ?_
  refine x_putR (tk K_X2_init 27 rfl) f_X2_34 rfl rfl (Or.inl rfl) hT12 ?_
  refine WA_nm (fun M10 e_M10 => ?_)
  have h := h M10 e_M10
  have hT13 : isK M10 l0 2 8 := by rw [e_M10]; exact hT12
  exact x_return (tk K_X2_init 28 rfl) rfl h

theorem e_X2_init {X : Cx} {d kc ns : Nat} {M : Mem} {Q : Option AV → Mem → Prop} {a0 : Nat} {a1 : Nat} (h : WA X d kc ns m_X2_init 0 [some (vR a0), some (vR a1)] [] M Q) : Cl X d kc ns m_X2_init [vR a0, vR a1] M Q := Cl.intro (k := 0) (by decide) rfl rfl h

-- TwoPencils$Joiner.join(LTwoPencils$Land;[IIII)Z
theorem b_X2_join_0 {X : Cx} {d kc ns : Nat} {M : Mem} {Q : Option AV → Mem → Prop} {l0 : Nat} {l1 : Nat} {l2 : Nat} {l3 : Int32} {l4 : Int32} {l5 : Int32} (hS : JoS M l0) (hd : 1 ≤ d)
    (h : ∀ M1 : Mem, M1 = sR M l0 0 l1 → ∀ M2 : Mem, M2 = sR M1 l0 1 l2 → ∀ M3 : Mem, M3 = sI M2 l0 2 (minI l3 (nI 4)) → ∀ M4 : Mem, M4 = sI M3 l0 3 l4 → ∀ M5 : Mem, M5 = sI M4 l0 4 l5 → ∀ M6 : Mem, M6 = sI M5 l0 6 (-1) → ∀ M7 : Mem, M7 = sI M6 l0 7 (nI 0) → Cl X (d - 1) 0 0 m_X2_joinFrom [vR l0, vI (nI 0), vI (nI 0), vI (nI 0)] M7 (fun r M8 => r = none ∧ Ext M7 M8 ∧ (((mI M8 l0 6) = (-1) → Q (some (vI (nI 0))) M8) ∧ (¬ (mI M8 l0 6) = (-1) → Q (some (vI (nI 1))) M8)))) :
    WA X d kc ns m_X2_join 0 [some (vR l0), some (vR l1), some (vR l2), some (vI l3), some (vI l4), some (vI l5)] [] M Q := by
  refine x_aload_n (tk K_X2_join 0 rfl) rfl rfl ?_
  refine x_aload_n (tk K_X2_join 1 rfl) rfl rfl ?_
  have h := h _ rfl
  refine x_putR (tk K_X2_join 2 rfl) f_X2_34 rfl rfl (Or.inl rfl) (JoS.o hS) ?_
  refine x_aload_n (tk K_X2_join 3 rfl) rfl rfl ?_
  refine x_aload_n (tk K_X2_join 4 rfl) rfl rfl ?_
  have h := h _ rfl
  refine x_putR (tk K_X2_join 5 rfl) f_X2_9 rfl rfl (Or.inl rfl) (JoS.o (JoS.ext hS (ExtR (i := 0) (JoS.o hS) rfl))) ?_
  refine x_aload_n (tk K_X2_join 6 rfl) rfl rfl ?_
  refine x_iload_n (tk K_X2_join 7 rfl) rfl rfl ?_
  refine x_iconst (tk K_X2_join 8 rfl) ic_4 ?_
  refine x_mmin (tk K_X2_join 9 rfl) mx_X2_38 mx_min_st mx_min_co hd (Nat.le_of_ble_eq_true rfl) ?_
  have h := h _ rfl
  refine x_putI (tk K_X2_join 10 rfl) f_X2_15 rfl (Or.inl rfl) (JoS.o (JoS.ext (JoS.ext hS (ExtR (i := 0) (JoS.o hS) rfl)) (ExtR (i := 1) (JoS.o (JoS.ext hS (ExtR (i := 0) (JoS.o hS) rfl))) rfl))) ?_
  refine x_aload_n (tk K_X2_join 11 rfl) rfl rfl ?_
  refine x_iload (tk K_X2_join 12 rfl) rfl ?_
  have h := h _ rfl
  refine x_putI (tk K_X2_join 13 rfl) f_X2_19 rfl (Or.inl rfl) (JoS.o (JoS.ext (JoS.ext hS (ExtR (i := 0) (JoS.o hS) rfl)) (ExtR (i := 1) (JoS.o (JoS.ext hS (ExtR (i := 0) (JoS.o hS) rfl))) rfl))) ?_
  refine x_aload_n (tk K_X2_join 14 rfl) rfl rfl ?_
  refine x_iload (tk K_X2_join 15 rfl) rfl ?_
  have h := h _ rfl
  refine x_putI (tk K_X2_join 16 rfl) f_X2_22 rfl (Or.inl rfl) (JoS.o (JoS.ext (JoS.ext hS (ExtR (i := 0) (JoS.o hS) rfl)) (ExtR (i := 1) (JoS.o (JoS.ext hS (ExtR (i := 0) (JoS.o hS) rfl))) rfl))) ?_
  refine x_aload_n (tk K_X2_join 17 rfl) rfl rfl ?_
  refine x_iconst (tk K_X2_join 18 rfl) ic_m1 ?_
  have h := h _ rfl
  refine x_putI (tk K_X2_join 19 rfl) f_X2_28 rfl (Or.inl rfl) (JoS.o (JoS.ext (JoS.ext hS (ExtR (i := 0) (JoS.o hS) rfl)) (ExtR (i := 1) (JoS.o (JoS.ext hS (ExtR (i := 0) (JoS.o hS) rfl))) rfl))) ?_
  refine x_aload_n (tk K_X2_join 20 rfl) rfl rfl ?_
  refine x_iconst (tk K_X2_join 21 rfl) ic_0 ?_
  have h := h _ rfl
  refine x_putI (tk K_X2_join 22 rfl) f_X2_31 rfl (Or.inl rfl) (JoS.o (JoS.ext (JoS.ext hS (ExtR (i := 0) (JoS.o hS) rfl)) (ExtR (i := 1) (JoS.o (JoS.ext hS (ExtR (i := 0) (JoS.o hS) rfl))) rfl))) ?_
  refine x_aload_n (tk K_X2_join 23 rfl) rfl rfl ?_
  refine x_iconst (tk K_X2_join 24 rfl) ic_0 ?_
  refine x_iconst (tk K_X2_join 25 rfl) ic_0 ?_
  refine x_iconst (tk K_X2_join 26 rfl) ic_0 ?_
  refine x_callV0 (As := [vI _, vI _, vI _]) (S := []) (tk K_X2_join 27 rfl) mk_X2_44 mo_X2_joinFrom (JoS.o (JoS.ext (JoS.ext hS (ExtR (i := 0) (JoS.o hS) rfl)) (ExtR (i := 1) (JoS.o (JoS.ext hS (ExtR (i := 0) (JoS.o hS) rfl))) rfl))) rfl rfl (Nat.le_of_ble_eq_true rfl) hd h (fun r M8 hq => ?_)
  obtain ⟨rfl, hE, h⟩ := hq
  have hT0 := JoS.ext (JoS.ext (JoS.ext hS (ExtR (i := 0) (JoS.o hS) rfl)) (ExtR (i := 1) (JoS.o (JoS.ext hS (ExtR (i := 0) (JoS.o hS) rfl))) rfl)) hE
  refine x_aload_n (tk K_X2_join 28 rfl) rfl rfl ?_
  refine x_getI (tk K_X2_join 29 rfl) f_X2_28 rfl (JoS.o hT0) ?_
  refine x_iconst (tk K_X2_join 30 rfl) ic_m1 ?_
  refine x_icmp_eq (t := 60) (tk K_X2_join 31 rfl) rfl (fun hc => ?_) (fun hc => ?_)
  · have h := h.1 hc
    refine x_iconst (tk K_X2_join 34 rfl) ic_0 ?_
    exact x_ireturn (tk K_X2_join 35 rfl) rfl (fitZ (Or.inl rfl)).1 h
  · have h := h.2 hc
    refine x_iconst (tk K_X2_join 32 rfl) ic_1 ?_
    refine x_goto (t := 61) (tk K_X2_join 33 rfl) rfl ?_
    exact x_ireturn (tk K_X2_join 35 rfl) rfl (fitZ (Or.inr rfl)).1 h

theorem e_X2_join {X : Cx} {d kc ns : Nat} {M : Mem} {Q : Option AV → Mem → Prop} {a0 : Nat} {a1 : Nat} {a2 : Nat} {a3 : Int32} {a4 : Int32} {a5 : Int32} (h : WA X d kc ns m_X2_join 0 [some (vR a0), some (vR a1), some (vR a2), some (vI a3), some (vI a4), some (vI a5)] [] M Q) : Cl X d kc ns m_X2_join [vR a0, vR a1, vR a2, vI a3, vI a4, vI a5] M Q := Cl.intro (k := 0) (by decide) rfl rfl h

-- TwoPencils$Joiner.joinFrom(III)V
theorem b_X2_joinFrom_0 {X : Cx} {d kc ns : Nat} {M : Mem} {Q : Option AV → Mem → Prop} {l0 : Nat} {l1 : Int32} {l2 : Int32} {l3 : Int32} (hS : JoS M l0) (hd : 1 ≤ d)
    (h : ((l1 < (mI M l0 2) → WA X d kc ns m_X2_joinFrom 80 [some (vR l0), some (vI l1), some (vI l2), some (vI l3), some (vI (nI 0)), none, none] [] M Q) ∧ (¬ l1 < (mI M l0 2) → LaS M (mR M l0 0) ∧ Cl X (d - 1) 0 0 m_X3_numberOf [vR (mR M l0 0), vR (l0 + 2), vI (mI M l0 2)] M (fun r M1 => ∃ x1 : Int32, r = some (vI x1) ∧ Ext M M1 ∧ (((mI M1 l0 6) = (-1) → WA X d kc ns m_X2_joinFrom 65 [some (vR l0), none, none, some (vI l3), some (vI x1), none, none] [] M1 Q) ∧ (¬ (mI M1 l0 6) = (-1) → Cl X (d - 1) 0 0 m_X5_prefers [vI (mI M1 l0 3), vI l3, vI (mI M1 l0 7)] M1 (fun r M2 => ∃ x2 : Int32, r = some (vI x2) ∧ Ext M1 M2 ∧ ((¬ x2 = nI 0 → WA X d kc ns m_X2_joinFrom 65 [some (vR l0), none, none, some (vI l3), some (vI x1), none, none] [] M2 Q) ∧ (x2 = nI 0 → ((¬ l3 = (mI M2 l0 7) → Q none M2) ∧ (l3 = (mI M2 l0 7) → (((mI M2 l0 6) ≤ x1 → Q none M2) ∧ (¬ (mI M2 l0 6) ≤ x1 → WA X d kc ns m_X2_joinFrom 65 [some (vR l0), none, none, some (vI l3), some (vI x1), none, none] [] M2 Q))))))))))))) :
    WA X d kc ns m_X2_joinFrom 0 [some (vR l0), some (vI l1), some (vI l2), some (vI l3), none, none, none] [] M Q := by
  refine x_iload_n (tk K_X2_joinFrom 0 rfl) rfl rfl ?_
  refine x_aload_n (tk K_X2_joinFrom 1 rfl) rfl rfl ?_
  refine x_getI (tk K_X2_joinFrom 2 rfl) f_X2_15 rfl (JoS.o hS) ?_
  refine x_icmp_lt (t := 77) (tk K_X2_joinFrom 3 rfl) rfl (fun hc => ?_) (fun hc => ?_)
  · have h := h.1 hc
    refine x_iconst (tk K_X2_joinFrom 38 rfl) ic_0 ?_
    refine x_istore (L' := [some (vR _), some (vI _), some (vI _), some (vI _), some (vI _), none, none]) (tk K_X2_joinFrom 39 rfl) rfl (Nat.le_of_ble_eq_true rfl) rfl ?_
    exact h
  · have h := h.2 hc
    refine x_aload_n (tk K_X2_joinFrom 4 rfl) rfl rfl ?_
    refine x_getR (tk K_X2_joinFrom 5 rfl) f_X2_34 rfl (JoS.o hS) ?_
    refine x_aload_n (tk K_X2_joinFrom 6 rfl) rfl rfl ?_
    refine x_getRc (tk K_X2_joinFrom 7 rfl) f_X2_25 rfl (JoS.o hS) (JoS.r5 hS) ?_
    refine x_aload_n (tk K_X2_joinFrom 8 rfl) rfl rfl ?_
    refine x_getI (tk K_X2_joinFrom 9 rfl) f_X2_15 rfl (JoS.o hS) ?_
    have hS_2 := h.1
    have h := h.2
    refine x_callV0 (As := [vR _, vI _]) (S := []) (tk K_X2_joinFrom 10 rfl) mk_X2_48 mo_X3_numberOf (LaS.o hS_2) rfl rfl (Nat.le_of_ble_eq_true rfl) hd h (fun r M1 hq => ?_)
    obtain ⟨x1, rfl, hE, h⟩ := hq
    have hT0 := JoS.ext hS hE
    have hT1 := LaS.ext hS_2 hE
    have hT2 := hE.1 _ _ _ (JoS.k5 hS)
    refine x_istore (L' := [some (vR _), some (vI _), some (vI _), some (vI _), some (vI _), none, none]) (tk K_X2_joinFrom 11 rfl) rfl (Nat.le_of_ble_eq_true rfl) rfl ?_
    refine x_aload_n (tk K_X2_joinFrom 12 rfl) rfl rfl ?_
    refine x_getI (tk K_X2_joinFrom 13 rfl) f_X2_28 rfl (JoS.o hT0) ?_
    refine x_iconst (tk K_X2_joinFrom 14 rfl) ic_m1 ?_
    refine x_icmp_eq (t := 65) (tk K_X2_joinFrom 15 rfl) rfl (fun hc => ?_) (fun hc => ?_)
    · have h := h.1 hc
      refine x_msk [true, false, false, true, true, false, false] ?_
      exact h
    · have h := h.2 hc
      refine x_aload_n (tk K_X2_joinFrom 16 rfl) rfl rfl ?_
      refine x_getI (tk K_X2_joinFrom 17 rfl) f_X2_19 rfl (JoS.o hT0) ?_
      refine x_iload_n (tk K_X2_joinFrom 18 rfl) rfl rfl ?_
      refine x_aload_n (tk K_X2_joinFrom 19 rfl) rfl rfl ?_
      refine x_getI (tk K_X2_joinFrom 20 rfl) f_X2_31 rfl (JoS.o hT0) ?_
      refine x_callS0 (As := [vI _, vI _, vI _]) (S := []) (tk K_X2_joinFrom 21 rfl) mk_X2_54 mo_X5_prefers rfl rfl (Nat.le_of_ble_eq_true rfl) hd h (fun r M2 hq => ?_)
      obtain ⟨x2, rfl, hE, h⟩ := hq
      have hT3 := JoS.ext hT0 hE
      have hT4 := LaS.ext hT1 hE
      have hT5 := hE.1 _ _ _ hT2
      refine x_if_ne (t := 65) (tk K_X2_joinFrom 22 rfl) rfl (fun hc => ?_) (fun hc => ?_)
      · have h := h.1 hc
        refine x_msk [true, false, false, true, true, false, false] ?_
        exact h
      · have h := h.2 hc
        refine x_iload_n (tk K_X2_joinFrom 23 rfl) rfl rfl ?_
        refine x_aload_n (tk K_X2_joinFrom 24 rfl) rfl rfl ?_
        refine x_getI (tk K_X2_joinFrom 25 rfl) f_X2_31 rfl (JoS.o hT3) ?_
        refine x_icmp_ne (t := 76) (tk K_X2_joinFrom 26 rfl) rfl (fun hc => ?_) (fun hc => ?_)
        · have h := h.1 hc
          exact x_return (tk K_X2_joinFrom 37 rfl) rfl h
        · have h := h.2 hc
          refine x_iload (tk K_X2_joinFrom 27 rfl) rfl ?_
          refine x_aload_n (tk K_X2_joinFrom 28 rfl) rfl rfl ?_
          refine x_getI (tk K_X2_joinFrom 29 rfl) f_X2_28 rfl (JoS.o hT3) ?_
          refine x_icmp_ge (t := 76) (tk K_X2_joinFrom 30 rfl) rfl (fun hc => ?_) (fun hc => ?_)
          · have h := h.1 hc
            exact x_return (tk K_X2_joinFrom 37 rfl) rfl h
          · have h := h.2 hc
            refine x_msk [true, false, false, true, true, false, false] ?_
            exact h

theorem b_X2_joinFrom_65 {X : Cx} {d kc ns : Nat} {M : Mem} {Q : Option AV → Mem → Prop} {l0 : Nat} {l3 : Int32} {l4 : Int32} (hS : JoS M l0)
    (h : ∀ M1 : Mem, M1 = sI M l0 6 l4 → ∀ M2 : Mem, M2 = sI M1 l0 7 l3 → Q none M2) :
    WA X d kc ns m_X2_joinFrom 65 [some (vR l0), none, none, some (vI l3), some (vI l4), none, none] [] M Q := by
  refine x_aload_n (tk K_X2_joinFrom 31 rfl) rfl rfl ?_
  refine x_iload (tk K_X2_joinFrom 32 rfl) rfl ?_
  have h := h _ rfl
  refine x_putI (tk K_X2_joinFrom 33 rfl) f_X2_28 rfl (Or.inl rfl) (JoS.o hS) ?_
  refine x_aload_n (tk K_X2_joinFrom 34 rfl) rfl rfl ?_
  refine x_iload_n (tk K_X2_joinFrom 35 rfl) rfl rfl ?_
  have h := h _ rfl
  refine x_putI (tk K_X2_joinFrom 36 rfl) f_X2_31 rfl (Or.inl rfl) (JoS.o hS) ?_
  exact x_return (tk K_X2_joinFrom 37 rfl) rfl h

theorem b_X2_joinFrom_80 {X : Cx} {d kc ns : Nat} {M : Mem} {Q : Option AV → Mem → Prop} {l0 : Nat} {l1 : Int32} {l2 : Int32} {l3 : Int32} {l4 : Int32} (hS : JoS M l0)
    (h : ((((nI 2) * (mI M l0 2)) ≤ l4 → ∀ x1 : Int32, x1 = (l4 + (nI 1)) → WA X d kc ns m_X2_joinFrom 112 [some (vR l0), some (vI l1), some (vI l2), some (vI l3), some (vI l4), some (vI x1), none] [] M Q) ∧ (¬ ((nI 2) * (mI M l0 2)) ≤ l4 → ((((shr l2 l4) &&& (nI 1)) = nI 0 → ∀ x2 : Int32, x2 = (l4 + (nI 1)) → WA X d kc ns m_X2_joinFrom 112 [some (vR l0), some (vI l1), some (vI l2), some (vI l3), some (vI l4), some (vI x2), none] [] M Q) ∧ (¬ ((shr l2 l4) &&& (nI 1)) = nI 0 → WA X d kc ns m_X2_joinFrom 80 [some (vR l0), some (vI l1), some (vI l2), some (vI l3), some (vI (l4 + (nI 1))), none, none] [] M Q))))) :
    WA X d kc ns m_X2_joinFrom 80 [some (vR l0), some (vI l1), some (vI l2), some (vI l3), some (vI l4), none, none] [] M Q := by
  refine x_iload (tk K_X2_joinFrom 40 rfl) rfl ?_
  refine x_iconst (tk K_X2_joinFrom 41 rfl) ic_2 ?_
  refine x_aload_n (tk K_X2_joinFrom 42 rfl) rfl rfl ?_
  refine x_getI (tk K_X2_joinFrom 43 rfl) f_X2_15 rfl (JoS.o hS) ?_
  refine x_imul (tk K_X2_joinFrom 44 rfl) ?_
  refine x_icmp_ge (t := 106) (tk K_X2_joinFrom 45 rfl) rfl (fun hc => ?_) (fun hc => ?_)
  · have h := h.1 hc
    refine x_iload (tk K_X2_joinFrom 54 rfl) rfl ?_
    refine x_iconst (tk K_X2_joinFrom 55 rfl) ic_1 ?_
    refine x_iadd (tk K_X2_joinFrom 56 rfl) ?_
    have h := h _ rfl
    refine x_istore (L' := [some (vR _), some (vI _), some (vI _), some (vI _), some (vI _), some (vI _), none]) (tk K_X2_joinFrom 57 rfl) rfl (Nat.le_of_ble_eq_true rfl) rfl ?_
    exact h
  · have h := h.2 hc
    refine x_iload_n (tk K_X2_joinFrom 46 rfl) rfl rfl ?_
    refine x_iload (tk K_X2_joinFrom 47 rfl) rfl ?_
    refine x_ishr (tk K_X2_joinFrom 48 rfl) ?_
    refine x_iconst (tk K_X2_joinFrom 49 rfl) ic_1 ?_
    refine x_iand (tk K_X2_joinFrom 50 rfl) ?_
    refine x_if_eq (t := 106) (tk K_X2_joinFrom 51 rfl) rfl (fun hc => ?_) (fun hc => ?_)
    · have h := h.1 hc
      refine x_iload (tk K_X2_joinFrom 54 rfl) rfl ?_
      refine x_iconst (tk K_X2_joinFrom 55 rfl) ic_1 ?_
      refine x_iadd (tk K_X2_joinFrom 56 rfl) ?_
      have h := h _ rfl
      refine x_istore (L' := [some (vR _), some (vI _), some (vI _), some (vI _), some (vI _), some (vI _), none]) (tk K_X2_joinFrom 57 rfl) rfl (Nat.le_of_ble_eq_true rfl) rfl ?_
      exact h
    · have h := h.2 hc
      refine x_iincW (L' := [some (vR _), some (vI _), some (vI _), some (vI _), some (vI _), none, none]) (tk K_X2_joinFrom 52 rfl) rfl ic_1 rfl (Nat.le_of_ble_eq_true rfl) rfl ?_
      refine x_goto (t := 80) (tk K_X2_joinFrom 53 rfl) rfl ?_
      exact h

theorem b_X2_joinFrom_112 {X : Cx} {d kc ns : Nat} {M : Mem} {Q : Option AV → Mem → Prop} {l0 : Nat} {l1 : Int32} {l2 : Int32} {l3 : Int32} {l4 : Int32} {l5 : Int32} (hS : JoS M l0) (hd : 1 ≤ d)
    (h : ((((nI 2) * (mI M l0 2)) ≤ l5 → Q none M) ∧ (¬ ((nI 2) * (mI M l0 2)) ≤ l5 → ∃ n1 : Nat, isK M (mR M l0 1) 14 n1 ∧ (((nI n1) ≤ l5 → Q none M) ∧ (¬ (nI n1) ≤ l5 → vp_in l4 n1 ∧ vp_in l5 n1 ∧ ∀ x1 : Int32, x1 = ((mI M (mR M l0 1) (ix l4)) ||| (mI M (mR M l0 1) (ix l5))) → ((¬ ((shr l2 l5) &&& (nI 1)) = nI 0 → WA X d kc ns m_X2_joinFrom 112 [some (vR l0), some (vI l1), some (vI l2), some (vI l3), some (vI l4), some (vI (l5 + (nI 1))), none] [] M Q) ∧ (((shr l2 l5) &&& (nI 1)) = nI 0 → LaS M (mR M l0 0) ∧ Cl X (d - 1) 0 0 m_X3_isLawful [vR (mR M l0 0), vI x1] M (fun r M1 => ∃ x2 : Int32, r = some (vI x2) ∧ Ext M M1 ∧ ((x2 = nI 0 → WA X d kc ns m_X2_joinFrom 112 [some (vR l0), some (vI l1), some (vI l2), some (vI l3), some (vI l4), some (vI (l5 + (nI 1))), none] [] M1 Q) ∧ (¬ x2 = nI 0 → vp_in l1 4 ∧ ∀ M2 : Mem, M2 = sI M1 (l0 + 2) (ix l1) x1 → LaS M2 (mR M2 l0 0) ∧ Cl X (d - 1) 0 0 m_X3_worth [vR (mR M2 l0 0), vI x1, vI (mI M2 l0 4)] M2 (fun r M3 => ∃ x3 : Int32, r = some (vI x3) ∧ Ext M2 M3 ∧ Cl X (d - 1) 0 0 m_X2_joinFrom [vR l0, vI (l1 + (nI 1)), vI ((l2 ||| (shl (nI 1) l4)) ||| (shl (nI 1) l5)), vI (l3 + x3)] M3 (fun r M4 => r = none ∧ Ext M3 M4 ∧ WA X d kc ns m_X2_joinFrom 112 [some (vR l0), some (vI l1), some (vI l2), some (vI l3), some (vI l4), some (vI (l5 + (nI 1))), none] [] M4 Q)))))))))))) :
    WA X d kc ns m_X2_joinFrom 112 [some (vR l0), some (vI l1), some (vI l2), some (vI l3), some (vI l4), some (vI l5), none] [] M Q := by
  refine x_iload (tk K_X2_joinFrom 58 rfl) rfl ?_
  refine x_iconst (tk K_X2_joinFrom 59 rfl) ic_2 ?_
  refine x_aload_n (tk K_X2_joinFrom 60 rfl) rfl rfl ?_
  refine x_getI (tk K_X2_joinFrom 61 rfl) f_X2_15 rfl (JoS.o hS) ?_
  refine x_imul (tk K_X2_joinFrom 62 rfl) ?_
  refine x_icmp_ge (t := 218) (tk K_X2_joinFrom 63 rfl) rfl (fun hc => ?_) (fun hc => ?_)
  · have h := h.1 hc
    exact x_return (tk K_X2_joinFrom 119 rfl) rfl h
  · have h := h.2 hc
    refine x_iload (tk K_X2_joinFrom 64 rfl) rfl ?_
    refine x_aload_n (tk K_X2_joinFrom 65 rfl) rfl rfl ?_
    refine x_getR (tk K_X2_joinFrom 66 rfl) f_X2_9 rfl (JoS.o hS) ?_
    obtain ⟨n1, hA_n1, h⟩ := h
    refine x_alen (tk K_X2_joinFrom 67 rfl) hA_n1 rfl ?_
    refine x_icmp_ge (t := 218) (tk K_X2_joinFrom 68 rfl) rfl (fun hc => ?_) (fun hc => ?_)
    · have h := h.1 hc
      exact x_return (tk K_X2_joinFrom 119 rfl) rfl h
    · have h := h.2 hc
      refine x_aload_n (tk K_X2_joinFrom 69 rfl) rfl rfl ?_
      refine x_getR (tk K_X2_joinFrom 70 rfl) f_X2_9 rfl (JoS.o hS) ?_
      refine x_iload (tk K_X2_joinFrom 71 rfl) rfl ?_
      have hi := h.1
      have h := h.2
      refine x_iald (tk K_X2_joinFrom 72 rfl) hA_n1 hi ?_
      refine x_aload_n (tk K_X2_joinFrom 73 rfl) rfl rfl ?_
      refine x_getR (tk K_X2_joinFrom 74 rfl) f_X2_9 rfl (JoS.o hS) ?_
      refine x_iload (tk K_X2_joinFrom 75 rfl) rfl ?_
      have hi := h.1
      have h := h.2
      refine x_iald (tk K_X2_joinFrom 76 rfl) hA_n1 hi ?_
      refine x_ior (tk K_X2_joinFrom 77 rfl) ?_
      have h := h _ rfl
      refine x_istore (L' := [some (vR _), some (vI _), some (vI _), some (vI _), some (vI _), some (vI _), some (vI _)]) (tk K_X2_joinFrom 78 rfl) rfl (Nat.le_of_ble_eq_true rfl) rfl ?_
      refine x_iload_n (tk K_X2_joinFrom 79 rfl) rfl rfl ?_
      refine x_iload (tk K_X2_joinFrom 80 rfl) rfl ?_
      refine x_ishr (tk K_X2_joinFrom 81 rfl) ?_
      refine x_iconst (tk K_X2_joinFrom 82 rfl) ic_1 ?_
      refine x_iand (tk K_X2_joinFrom 83 rfl) ?_
      refine x_if_ne (t := 212) (tk K_X2_joinFrom 84 rfl) rfl (fun hc => ?_) (fun hc => ?_)
      · have h := h.1 hc
        refine x_iincW (L' := [some (vR _), some (vI _), some (vI _), some (vI _), some (vI _), some (vI _), some (vI _)]) (tk K_X2_joinFrom 117 rfl) rfl ic_1 rfl (Nat.le_of_ble_eq_true rfl) rfl ?_
        refine x_goto (t := 112) (tk K_X2_joinFrom 118 rfl) rfl ?_
        refine x_msk [true, true, true, true, true, true, false] ?_
        exact h
      · have h := h.2 hc
        refine x_aload_n (tk K_X2_joinFrom 85 rfl) rfl rfl ?_
        refine x_getR (tk K_X2_joinFrom 86 rfl) f_X2_34 rfl (JoS.o hS) ?_
        refine x_iload (tk K_X2_joinFrom 87 rfl) rfl ?_
        have hS_22 := h.1
        have h := h.2
        refine x_callV0 (As := [vI _]) (S := []) (tk K_X2_joinFrom 88 rfl) mk_X2_60 mo_X3_isLawful (LaS.o hS_22) rfl rfl (Nat.le_of_ble_eq_true rfl) hd h (fun r M1 hq => ?_)
        obtain ⟨x2, rfl, hE, h⟩ := hq
        have hT0 := JoS.ext hS hE
        have hT1 := LaS.ext hS_22 hE
        have hT2 := hE.1 _ _ _ hA_n1
        refine x_if_eq (t := 212) (tk K_X2_joinFrom 89 rfl) rfl (fun hc => ?_) (fun hc => ?_)
        · have h := h.1 hc
          refine x_iincW (L' := [some (vR _), some (vI _), some (vI _), some (vI _), some (vI _), some (vI _), some (vI _)]) (tk K_X2_joinFrom 117 rfl) rfl ic_1 rfl (Nat.le_of_ble_eq_true rfl) rfl ?_
          refine x_goto (t := 112) (tk K_X2_joinFrom 118 rfl) rfl ?_
          refine x_msk [true, true, true, true, true, true, false] ?_
          exact h
        · have h := h.2 hc
          refine x_aload_n (tk K_X2_joinFrom 90 rfl) rfl rfl ?_
          refine x_getRc (tk K_X2_joinFrom 91 rfl) f_X2_25 rfl (JoS.o hT0) (JoS.r5 hT0) ?_
          refine x_iload_n (tk K_X2_joinFrom 92 rfl) rfl rfl ?_
          refine x_iload (tk K_X2_joinFrom 93 rfl) rfl ?_
          have hi := h.1
          have h := h.2
          have h := h _ rfl
          refine x_iast (tk K_X2_joinFrom 94 rfl) (JoS.k5 hT0) hi ?_
          refine x_aload_n (tk K_X2_joinFrom 95 rfl) rfl rfl ?_
          refine x_iload_n (tk K_X2_joinFrom 96 rfl) rfl rfl ?_
          refine x_iconst (tk K_X2_joinFrom 97 rfl) ic_1 ?_
          refine x_iadd (tk K_X2_joinFrom 98 rfl) ?_
          refine x_iload_n (tk K_X2_joinFrom 99 rfl) rfl rfl ?_
          refine x_iconst (tk K_X2_joinFrom 100 rfl) ic_1 ?_
          refine x_iload (tk K_X2_joinFrom 101 rfl) rfl ?_
          refine x_ishl (tk K_X2_joinFrom 102 rfl) ?_
          refine x_ior (tk K_X2_joinFrom 103 rfl) ?_
          refine x_iconst (tk K_X2_joinFrom 104 rfl) ic_1 ?_
          refine x_iload (tk K_X2_joinFrom 105 rfl) rfl ?_
          refine x_ishl (tk K_X2_joinFrom 106 rfl) ?_
          refine x_ior (tk K_X2_joinFrom 107 rfl) ?_
          refine x_iload_n (tk K_X2_joinFrom 108 rfl) rfl rfl ?_
          refine x_aload_n (tk K_X2_joinFrom 109 rfl) rfl rfl ?_
          refine x_getR (tk K_X2_joinFrom 110 rfl) f_X2_34 rfl (JoS.o hT0) ?_
          refine x_iload (tk K_X2_joinFrom 111 rfl) rfl ?_
          refine x_aload_n (tk K_X2_joinFrom 112 rfl) rfl rfl ?_
          refine x_getI (tk K_X2_joinFrom 113 rfl) f_X2_22 rfl (JoS.o hT0) ?_
          have hS_43 := h.1
          have h := h.2
          refine x_callV0 (As := [vI _, vI _]) (S := [vI _, vI _, vI _, vR _]) (tk K_X2_joinFrom 114 rfl) mk_X2_64 mo_X3_worth (LaS.o hS_43) rfl rfl (Nat.le_of_ble_eq_true rfl) hd h (fun r M3 hq => ?_)
          obtain ⟨x3, rfl, hE, h⟩ := hq
          have hT3 := JoS.ext hT0 hE
          have hT4 := LaS.ext hT1 hE
          have hT5 := LaS.ext hS_43 hE
          have hT6 := hE.1 _ _ _ hT2
          have hT7 := hE.1 _ _ _ (JoS.k5 hT0)
          refine x_iadd (tk K_X2_joinFrom 115 rfl) ?_
          refine x_callV0 (As := [vI _, vI _, vI _]) (S := []) (tk K_X2_joinFrom 116 rfl) mk_X2_44 mo_X2_joinFrom (JoS.o hT3) rfl rfl (Nat.le_of_ble_eq_true rfl) hd h (fun r M4 hq => ?_)
          obtain ⟨rfl, hE, h⟩ := hq
          have hT8 := JoS.ext hT3 hE
          have hT9 := LaS.ext hT4 hE
          have hT10 := LaS.ext hT5 hE
          have hT11 := hE.1 _ _ _ hT6
          have hT12 := hE.1 _ _ _ hT7
          refine x_iincW (L' := [some (vR _), some (vI _), some (vI _), some (vI _), some (vI _), some (vI _), some (vI _)]) (tk K_X2_joinFrom 117 rfl) rfl ic_1 rfl (Nat.le_of_ble_eq_true rfl) rfl ?_
          refine x_goto (t := 112) (tk K_X2_joinFrom 118 rfl) rfl ?_
          refine x_msk [true, true, true, true, true, true, false] ?_
          exact h

theorem e_X2_joinFrom {X : Cx} {d kc ns : Nat} {M : Mem} {Q : Option AV → Mem → Prop} {a0 : Nat} {a1 : Int32} {a2 : Int32} {a3 : Int32} (h : WA X d kc ns m_X2_joinFrom 0 [some (vR a0), some (vI a1), some (vI a2), some (vI a3), none, none, none] [] M Q) : Cl X d kc ns m_X2_joinFrom [vR a0, vI a1, vI a2, vI a3] M Q := Cl.intro (k := 3) (by decide) rfl rfl h
