-- TwoPencils$Cutter.<init>()V
theorem b_X0_init_0 {X : Cx} {d kc ns : Nat} {M : Mem} {Q : Option AV → Mem → Prop} {l0 : Nat} (hS : isK M l0 0 9) (hd : 1 ≤ d)
    (h : vp_in (nI 8) 65536 ∧ 1 ≤ kc ∧ ix (nI 8) ≤ ns ∧ ∀ M1 : Mem, M1 = nw M 14 (ix (nI 8)) → ∀ M2 : Mem, M2 = sR M1 l0 0 (nx M) → vp_in (nI 10) 65536 ∧ 1 ≤ (kc - 1) ∧ ix (nI 10) ≤ (ns - ix (nI 8)) ∧ ∀ M3 : Mem, M3 = nw M2 14 (ix (nI 10)) → ∀ M4 : Mem, M4 = sR M3 l0 1 (nx M2) → vp_in (nI 10) 65536 ∧ 1 ≤ ((kc - 1) - 1) ∧ ix (nI 10) ≤ ((ns - ix (nI 8)) - ix (nI 10)) ∧ ∀ M5 : Mem, M5 = nw M4 14 (ix (nI 10)) → ∀ M6 : Mem, M6 = sR M5 l0 2 (nx M4) → vp_in (nI 11) 65536 ∧ 1 ≤ (((kc - 1) - 1) - 1) ∧ ix (nI 11) ≤ (((ns - ix (nI 8)) - ix (nI 10)) - ix (nI 10)) ∧ ∀ M7 : Mem, M7 = nw M6 14 (ix (nI 11)) → ∀ M8 : Mem, M8 = sR M7 l0 3 (nx M6) → vp_in (nI 0) 65536 ∧ 1 ≤ ((((kc - 1) - 1) - 1) - 1) ∧ ix (nI 0) ≤ ((((ns - ix (nI 8)) - ix (nI 10)) - ix (nI 10)) - ix (nI 11)) ∧ ∀ M9 : Mem, M9 = nw M8 14 (ix (nI 0)) → ∀ M10 : Mem, M10 = sR M9 l0 4 (nx M8) → ∀ M11 : Mem, M11 = sI M10 l0 5 (nI 0) → ∀ M12 : Mem, M12 = sI M11 l0 6 (nI 0) → ∀ M13 : Mem, M13 = sI M12 l0 7 (nI 0) → ∀ M14 : Mem, M14 = sI M13 l0 8 (-1) → Q none M14) :
    WA X d kc ns m_X0_init 0 [some (vR l0)] [] M Q := by
  refine x_aload_n (tk K_X0_init 0 rfl) rfl rfl ?_
  refine x_objInit (tk K_X0_init 1 rfl) oi_X0_3 oi_in oi_code hS (by decide) hd ?_
  refine x_aload_n (tk K_X0_init 2 rfl) rfl rfl ?_
  refine x_bipush (tk K_X0_init 3 rfl) bp_8 ?_
  have hx := h.1
  have hk := h.2.1
  have hn := h.2.2.1
  have h := h.2.2.2
  refine x_newa (k := 14) (tk K_X0_init 4 rfl) rfl ac_14 hx hk hn ?_
  refine WA_nm (fun M1 e_M1 => ?_)
  have h := h M1 e_M1
  have hT1 : isK M1 (nx M) 14 (ix (nI 8)) := by rw [e_M1]; exact isK_nw
  have hT2 : isK M1 l0 0 9 := by rw [e_M1]; exact (isK_nw_old hS)
  refine x_putR (tk K_X0_init 5 rfl) f_X0_9 rfl rfl (Or.inr ⟨rfl, rfl, rfl, l_X0_9⟩) hT2 ?_
  refine WA_nm (fun M2 e_M2 => ?_)
  have h := h M2 e_M2
  have hT3 : isK M2 l0 0 9 := by rw [e_M2]; exact hT2
  refine x_aload_n (tk K_X0_init 6 rfl) rfl rfl ?_
  refine x_bipush (tk K_X0_init 7 rfl) bp_10 ?_
  have hx := h.1
  have hk := h.2.1
  have hn := h.2.2.1
  have h := h.2.2.2
  refine x_newa (k := 14) (tk K_X0_init 8 rfl) rfl ac_14 hx hk hn ?_
  refine WA_nm (fun M3 e_M3 => ?_)
  have h := h M3 e_M3
  have hT5 : isK M3 (nx M2) 14 (ix (nI 10)) := by rw [e_M3]; exact isK_nw
  have hT6 : isK M3 l0 0 9 := by rw [e_M3]; exact (isK_nw_old hT3)
  refine x_putR (tk K_X0_init 9 rfl) f_X0_15 rfl rfl (Or.inr ⟨rfl, rfl, rfl, l_X0_15⟩) hT6 ?_
  refine WA_nm (fun M4 e_M4 => ?_)
  have h := h M4 e_M4
  have hT7 : isK M4 l0 0 9 := by rw [e_M4]; exact hT6
  refine x_aload_n (tk K_X0_init 10 rfl) rfl rfl ?_
  refine x_bipush (tk K_X0_init 11 rfl) bp_10 ?_
  have hx := h.1
  have hk := h.2.1
  have hn := h.2.2.1
  have h := h.2.2.2
  refine x_newa (k := 14) (tk K_X0_init 12 rfl) rfl ac_14 hx hk hn ?_
  refine WA_nm (fun M5 e_M5 => ?_)
  have h := h M5 e_M5
  have hT9 : isK M5 (nx M4) 14 (ix (nI 10)) := by rw [e_M5]; exact isK_nw
  have hT10 : isK M5 l0 0 9 := by rw [e_M5]; exact (isK_nw_old hT7)
  refine x_putR (tk K_X0_init 13 rfl) f_X0_18 rfl rfl (Or.inr ⟨rfl, rfl, rfl, l_X0_18⟩) hT10 ?_
  refine WA_nm (fun M6 e_M6 => ?_)
  have h := h M6 e_M6
  have hT11 : isK M6 l0 0 9 := by rw [e_M6]; exact hT10
  refine x_aload_n (tk K_X0_init 14 rfl) rfl rfl ?_
  refine x_bipush (tk K_X0_init 15 rfl) bp_11 ?_
  have hx := h.1
  have hk := h.2.1
  have hn := h.2.2.1
  have h := h.2.2.2
  refine x_newa (k := 14) (tk K_X0_init 16 rfl) rfl ac_14 hx hk hn ?_
  refine WA_nm (fun M7 e_M7 => ?_)
  have h := h M7 e_M7
  have hT13 : isK M7 (nx M6) 14 (ix (nI 11)) := by rw [e_M7]; exact isK_nw
  have hT14 : isK M7 l0 0 9 := by rw [e_M7]; exact (isK_nw_old hT11)
  refine x_putR (tk K_X0_init 17 rfl) f_X0_21 rfl rfl (Or.inr ⟨rfl, rfl, rfl, l_X0_21⟩) hT14 ?_
  refine WA_nm (fun M8 e_M8 => ?_)
  have h := h M8 e_M8
  have hT15 : isK M8 l0 0 9 := by rw [e_M8]; exact hT14
  refine x_aload_n (tk K_X0_init 18 rfl) rfl rfl ?_
  refine x_iconst (tk K_X0_init 19 rfl) ic_0 ?_
  have hx := h.1
  have hk := h.2.1
  have hn := h.2.2.1
  have h := h.2.2.2
  refine x_newa (k := 14) (tk K_X0_init 20 rfl) rfl ac_14 hx hk hn ?_
  refine WA_nm (fun M9 e_M9 => ?_)
  have h := h M9 e_M9
  have hT17 : isK M9 (nx M8) 14 (ix (nI 0)) := by rw [e_M9]; exact isK_nw
  have hT18 : isK M9 l0 0 9 := by rw [e_M9]; exact (isK_nw_old hT15)
  refine x_putR (tk K_X0_init 21 rfl) f_X0_24 rfl rfl (Or.inl rfl) hT18 ?_
  refine WA_nm (fun M10 e_M10 => ?_)
  have h := h M10 e_M10
  have hT19 : isK M10 l0 0 9 := by rw [e_M10]; exact hT18
  refine x_aload_n (tk K_X0_init 22 rfl) rfl rfl ?_
  refine x_iconst (tk K_X0_init 23 rfl) ic_0 ?_
  refine x_putI (tk K_X0_init 24 rfl) f_X0_27 rfl (Or.inl rfl) hT19 ?_
  refine WA_nm (fun M11 e_M11 => ?_)
  have h := h M11 e_M11
  have hT20 : isK M11 l0 0 9 := by rw [e_M11]; exact hT19
  refine x_aload_n (tk K_X0_init 25 rfl) rfl rfl ?_
  refine x_iconst (tk K_X0_init 26 rfl) ic_0 ?_
  refine x_putI (tk K_X0_init 27 rfl) f_X0_31 rfl (Or.inl rfl) hT20 ?_
  refine WA_nm (fun M12 e_M12 => ?_)
  have h := h M12 e_M12
  have hT21 : isK M12 l0 0 9 := by rw [e_M12]; exact hT20
  refine x_aload_n (tk K_X0_init 28 rfl) rfl rfl ?_
  refine x_iconst (tk K_X0_init 29 rfl) ic_0 ?_
  refine x_putI (tk K_X0_init 30 rfl) f_X0_34 rfl (Or.inl rfl) hT21 ?_
  refine WA_nm (fun M13 e_M13 => ?_)
  have h := h M13 e_M13
  have hT22 : isK M13 l0 0 9 := by rw [e_M13]; exact hT21
  refine x_aload_n (tk K_X0_init 31 rfl) rfl rfl ?_
  refine x_iconst (tk K_X0_init 32 rfl) ic_m1 ?_
  refine x_putI (tk K_X0_init 33 rfl) f_X0_37 rfl (Or.inl rfl) hT22 ?_
  refine WA_nm (fun M14 e_M14 => ?_)
  have h := h M14 e_M14
  have hT23 : isK M14 l0 0 9 := by rw [e_M14]; exact hT22
  exact x_return (tk K_X0_init 34 rfl) rfl h

theorem e_X0_init {X : Cx} {d kc ns : Nat} {M : Mem} {Q : Option AV → Mem → Prop} {a0 : Nat} (h : WA X d kc ns m_X0_init 0 [some (vR a0)] [] M Q) : Cl X d kc ns m_X0_init [vR a0] M Q := Cl.intro (k := 0) (by decide) rfl rfl h

-- TwoPencils$Cutter.begin([IIII)V
theorem b_X0_begin_0 {X : Cx} {d kc ns : Nat} {M : Mem} {Q : Option AV → Mem → Prop} {l0 : Nat} {l1 : Nat} {l2 : Int32} {l3 : Int32} {l4 : Int32} (hS : CuS M l0) (hd : 1 ≤ d)
    (h : ∀ M1 : Mem, M1 = sR M l0 4 l1 → ∀ M2 : Mem, M2 = sI M1 l0 5 l2 → ∀ M3 : Mem, M3 = sI M2 l0 7 (minI l4 (nI 8)) → ∀ M4 : Mem, M4 = sI M3 l0 6 (nI 0) → WA X d kc ns m_X0_begin 29 [some (vR l0), none, some (vI l2), some (vI l3), none, some (vI (nI 0))] [] M4 Q) :
    WA X d kc ns m_X0_begin 0 [some (vR l0), some (vR l1), some (vI l2), some (vI l3), some (vI l4), none] [] M Q := by
  refine x_aload_n (tk K_X0_begin 0 rfl) rfl rfl ?_
  refine x_aload_n (tk K_X0_begin 1 rfl) rfl rfl ?_
  have h := h _ rfl
  refine x_putR (tk K_X0_begin 2 rfl) f_X0_24 rfl rfl (Or.inl rfl) (CuS.o hS) ?_
  refine x_aload_n (tk K_X0_begin 3 rfl) rfl rfl ?_
  refine x_iload_n (tk K_X0_begin 4 rfl) rfl rfl ?_
  have h := h _ rfl
  refine x_putI (tk K_X0_begin 5 rfl) f_X0_27 rfl (Or.inl rfl) (CuS.o (CuS.ext hS (ExtR (i := 4) (CuS.o hS) rfl))) ?_
  refine x_aload_n (tk K_X0_begin 6 rfl) rfl rfl ?_
  refine x_iload (tk K_X0_begin 7 rfl) rfl ?_
  refine x_bipush (tk K_X0_begin 8 rfl) bp_8 ?_
  refine x_mmin (tk K_X0_begin 9 rfl) mx_X0_40 mx_min_st mx_min_co hd (Nat.le_of_ble_eq_true rfl) ?_
  have h := h _ rfl
  refine x_putI (tk K_X0_begin 10 rfl) f_X0_34 rfl (Or.inl rfl) (CuS.o (CuS.ext hS (ExtR (i := 4) (CuS.o hS) rfl))) ?_
  refine x_aload_n (tk K_X0_begin 11 rfl) rfl rfl ?_
  refine x_iconst (tk K_X0_begin 12 rfl) ic_0 ?_
  have h := h _ rfl
  refine x_putI (tk K_X0_begin 13 rfl) f_X0_31 rfl (Or.inl rfl) (CuS.o (CuS.ext hS (ExtR (i := 4) (CuS.o hS) rfl))) ?_
  refine x_iconst (tk K_X0_begin 14 rfl) ic_0 ?_
  refine x_istore (L' := [some (vR _), some (vR _), some (vI _), some (vI _), some (vI _), some (vI _)]) (tk K_X0_begin 15 rfl) rfl (Nat.le_of_ble_eq_true rfl) rfl ?_
  refine x_msk [true, false, true, true, false, true] ?_
  exact h

theorem b_X0_begin_29 {X : Cx} {d kc ns : Nat} {M : Mem} {Q : Option AV → Mem → Prop} {l0 : Nat} {l2 : Int32} {l3 : Int32} {l5 : Int32} (hS : CuS M l0)
    (h : ((l2 ≤ l5 → WA X d kc ns m_X0_begin 80 [some (vR l0), none, some (vI l2), none, none, none] [] M Q) ∧ (¬ l2 ≤ l5 → (((nI 9) ≤ (mI M l0 6) → WA X d kc ns m_X0_begin 80 [some (vR l0), none, some (vI l2), none, none, none] [] M Q) ∧ (¬ (nI 9) ≤ (mI M l0 6) → ((((shr l3 l5) &&& (nI 1)) = nI 0 → WA X d kc ns m_X0_begin 29 [some (vR l0), none, some (vI l2), some (vI l3), none, some (vI (l5 + (nI 1)))] [] M Q) ∧ (¬ ((shr l3 l5) &&& (nI 1)) = nI 0 → vp_in (mI M l0 6) 10 ∧ ∀ M1 : Mem, M1 = sI M (l0 + 2) (ix (mI M l0 6)) l5 → ∀ M2 : Mem, M2 = sI M1 l0 6 ((mI M1 l0 6) + (nI 1)) → WA X d kc ns m_X0_begin 29 [some (vR l0), none, some (vI l2), some (vI l3), none, some (vI (l5 + (nI 1)))] [] M2 Q))))))) :
    WA X d kc ns m_X0_begin 29 [some (vR l0), none, some (vI l2), some (vI l3), none, some (vI l5)] [] M Q := by
  refine x_iload (tk K_X0_begin 16 rfl) rfl ?_
  refine x_iload_n (tk K_X0_begin 17 rfl) rfl rfl ?_
  refine x_icmp_ge (t := 80) (tk K_X0_begin 18 rfl) rfl (fun hc => ?_) (fun hc => ?_)
  · have h := h.1 hc
    refine x_msk [true, false, true, false, false, false] ?_
    exact h
  · have h := h.2 hc
    refine x_aload_n (tk K_X0_begin 19 rfl) rfl rfl ?_
    refine x_getI (tk K_X0_begin 20 rfl) f_X0_31 rfl (CuS.o hS) ?_
    refine x_bipush (tk K_X0_begin 21 rfl) bp_9 ?_
    refine x_icmp_ge (t := 80) (tk K_X0_begin 22 rfl) rfl (fun hc => ?_) (fun hc => ?_)
    · have h := h.1 hc
      refine x_msk [true, false, true, false, false, false] ?_
      exact h
    · have h := h.2 hc
      refine x_iload_n (tk K_X0_begin 23 rfl) rfl rfl ?_
      refine x_iload (tk K_X0_begin 24 rfl) rfl ?_
      refine x_ishr (tk K_X0_begin 25 rfl) ?_
      refine x_iconst (tk K_X0_begin 26 rfl) ic_1 ?_
      refine x_iand (tk K_X0_begin 27 rfl) ?_
      refine x_if_eq (t := 74) (tk K_X0_begin 28 rfl) rfl (fun hc => ?_) (fun hc => ?_)
      · have h := h.1 hc
        refine x_iincW (L' := [some (vR _), none, some (vI _), some (vI _), none, some (vI _)]) (tk K_X0_begin 41 rfl) rfl ic_1 rfl (Nat.le_of_ble_eq_true rfl) rfl ?_
        refine x_goto (t := 29) (tk K_X0_begin 42 rfl) rfl ?_
        exact h
      · have h := h.2 hc
        refine x_aload_n (tk K_X0_begin 29 rfl) rfl rfl ?_
        refine x_getRc (tk K_X0_begin 30 rfl) f_X0_15 rfl (CuS.o hS) (CuS.r1 hS) ?_
        refine x_aload_n (tk K_X0_begin 31 rfl) rfl rfl ?_
        refine x_getI (tk K_X0_begin 32 rfl) f_X0_31 rfl (CuS.o hS) ?_
        refine x_iload (tk K_X0_begin 33 rfl) rfl ?_
        have hi := h.1
        have h := h.2
        have h := h _ rfl
        refine x_iast (tk K_X0_begin 34 rfl) (CuS.k1 hS) hi ?_
        refine x_aload_n (tk K_X0_begin 35 rfl) rfl rfl ?_
        refine x_dup (tk K_X0_begin 36 rfl) rfl ?_
        refine x_getI (tk K_X0_begin 37 rfl) f_X0_31 rfl (CuS.o hS) ?_
        refine x_iconst (tk K_X0_begin 38 rfl) ic_1 ?_
        refine x_iadd (tk K_X0_begin 39 rfl) ?_
        have h := h _ rfl
        refine x_putI (tk K_X0_begin 40 rfl) f_X0_31 rfl (Or.inl rfl) (CuS.o hS) ?_
        refine x_iincW (L' := [some (vR _), none, some (vI _), some (vI _), none, some (vI _)]) (tk K_X0_begin 41 rfl) rfl ic_1 rfl (Nat.le_of_ble_eq_true rfl) rfl ?_
        refine x_goto (t := 29) (tk K_X0_begin 42 rfl) rfl ?_
        exact h

theorem b_X0_begin_80 {X : Cx} {d kc ns : Nat} {M : Mem} {Q : Option AV → Mem → Prop} {l0 : Nat} {l2 : Int32} (hS : CuS M l0) (hd : 1 ≤ d)
    (h : vp_in (mI M l0 6) 10 ∧ ∀ M1 : Mem, M1 = sI M (l0 + 2) (ix (mI M l0 6)) l2 → Cl X (d - 1) 0 0 m_J7_fill_53178 [vR (l0 + 1), vI (nI 0)] M1 (fun r M2 => r = none ∧ Ext M1 M2 ∧ ∀ M3 : Mem, M3 = sI M2 (l0 + 3) (ix (nI 0)) (-1) → ∀ M4 : Mem, M4 = sI M3 l0 8 (nI 0) → Q none M4)) :
    WA X d kc ns m_X0_begin 80 [some (vR l0), none, some (vI l2), none, none, none] [] M Q := by
  refine x_aload_n (tk K_X0_begin 43 rfl) rfl rfl ?_
  refine x_getRc (tk K_X0_begin 44 rfl) f_X0_15 rfl (CuS.o hS) (CuS.r1 hS) ?_
  refine x_aload_n (tk K_X0_begin 45 rfl) rfl rfl ?_
  refine x_getI (tk K_X0_begin 46 rfl) f_X0_31 rfl (CuS.o hS) ?_
  refine x_iload_n (tk K_X0_begin 47 rfl) rfl rfl ?_
  have hi := h.1
  have h := h.2
  have h := h _ rfl
  refine x_iast (tk K_X0_begin 48 rfl) (CuS.k1 hS) hi ?_
  refine x_aload_n (tk K_X0_begin 49 rfl) rfl rfl ?_
  refine x_getRc (tk K_X0_begin 50 rfl) f_X0_9 rfl (CuS.o hS) (CuS.r0 hS) ?_
  refine x_iconst (tk K_X0_begin 51 rfl) ic_0 ?_
  refine x_callS0 (As := [vR _, vI _]) (S := []) (tk K_X0_begin 52 rfl) mk_X0_46 mo_J7_fill_53178 rfl rfl (Nat.le_of_ble_eq_true rfl) hd h (fun r M2 hq => ?_)
  obtain ⟨rfl, hE, h⟩ := hq
  have hT0 := CuS.ext hS hE
  have hT1 := hE.1 _ _ _ (CuS.k1 hS)
  have hT2 := hE.1 _ _ _ (CuS.k0 hS)
  refine x_aload_n (tk K_X0_begin 53 rfl) rfl rfl ?_
  refine x_getRc (tk K_X0_begin 54 rfl) f_X0_18 rfl (CuS.o hT0) (CuS.r2 hT0) ?_
  refine x_iconst (tk K_X0_begin 55 rfl) ic_0 ?_
  refine x_iconst (tk K_X0_begin 56 rfl) ic_m1 ?_
  have h := h _ rfl
  refine x_iast (tk K_X0_begin 57 rfl) (CuS.k2 hT0) (show vp_in (nI 0) 10 by unfold vp_in; decide) ?_
  refine x_aload_n (tk K_X0_begin 58 rfl) rfl rfl ?_
  refine x_iconst (tk K_X0_begin 59 rfl) ic_0 ?_
  have h := h _ rfl
  refine x_putI (tk K_X0_begin 60 rfl) f_X0_37 rfl (Or.inl rfl) (CuS.o hT0) ?_
  exact x_return (tk K_X0_begin 61 rfl) rfl h

theorem e_X0_begin {X : Cx} {d kc ns : Nat} {M : Mem} {Q : Option AV → Mem → Prop} {a0 : Nat} {a1 : Nat} {a2 : Int32} {a3 : Int32} {a4 : Int32} (h : WA X d kc ns m_X0_begin 0 [some (vR a0), some (vR a1), some (vI a2), some (vI a3), some (vI a4), none] [] M Q) : Cl X d kc ns m_X0_begin [vR a0, vR a1, vI a2, vI a3, vI a4] M Q := Cl.intro (k := 1) (by decide) rfl rfl h

-- TwoPencils$Cutter.next()Z
theorem b_X0_next_0 {X : Cx} {d kc ns : Nat} {M : Mem} {Q : Option AV → Mem → Prop} {l0 : Nat} (hS : CuS M l0)
    (h : ((¬ (mI M l0 8) = (mI M l0 6) → WA X d kc ns m_X0_next 23 [some (vR l0), some (vI (nI 0))] [] M Q) ∧ ((mI M l0 8) = (mI M l0 6) → ∀ M1 : Mem, M1 = sI M l0 8 ((mI M l0 8) - (nI 1)) → WA X d kc ns m_X0_next 23 [some (vR l0), some (vI (nI 0))] [] M1 Q))) :
    WA X d kc ns m_X0_next 0 [some (vR l0), none] [] M Q := by
  refine x_aload_n (tk K_X0_next 0 rfl) rfl rfl ?_
  refine x_getI (tk K_X0_next 1 rfl) f_X0_37 rfl (CuS.o hS) ?_
  refine x_aload_n (tk K_X0_next 2 rfl) rfl rfl ?_
  refine x_getI (tk K_X0_next 3 rfl) f_X0_31 rfl (CuS.o hS) ?_
  refine x_icmp_ne (t := 21) (tk K_X0_next 4 rfl) rfl (fun hc => ?_) (fun hc => ?_)
  · have h := h.1 hc
    refine x_iconst (tk K_X0_next 11 rfl) ic_0 ?_
    refine x_istore_n (L' := [some (vR _), some (vI _)]) (tk K_X0_next 12 rfl) rfl rfl (Nat.le_of_ble_eq_true rfl) rfl ?_
    exact h
  · have h := h.2 hc
    refine x_aload_n (tk K_X0_next 5 rfl) rfl rfl ?_
    refine x_dup (tk K_X0_next 6 rfl) rfl ?_
    refine x_getI (tk K_X0_next 7 rfl) f_X0_37 rfl (CuS.o hS) ?_
    refine x_iconst (tk K_X0_next 8 rfl) ic_1 ?_
    refine x_isub (tk K_X0_next 9 rfl) ?_
    have h := h _ rfl
    refine x_putI (tk K_X0_next 10 rfl) f_X0_37 rfl (Or.inl rfl) (CuS.o hS) ?_
    refine x_iconst (tk K_X0_next 11 rfl) ic_0 ?_
    refine x_istore_n (L' := [some (vR _), some (vI _)]) (tk K_X0_next 12 rfl) rfl rfl (Nat.le_of_ble_eq_true rfl) rfl ?_
    exact h

theorem b_X0_next_23 {X : Cx} {d kc ns : Nat} {M : Mem} {Q : Option AV → Mem → Prop} {l0 : Nat} {l1 : Int32} (hS : CuS M l0) (hd : 1 ≤ d)
    (h : (((nI 1000000) ≤ l1 → Q (some (vI (nI 0))) M) ∧ (¬ (nI 1000000) ≤ l1 → (((mI M l0 8) < nI 0 → Q (some (vI (nI 0))) M) ∧ (¬ (mI M l0 8) < nI 0 → (((mI M l0 6) ≤ (mI M l0 8) → Q (some (vI (nI 0))) M) ∧ (¬ (mI M l0 6) ≤ (mI M l0 8) → Cl X (d - 1) 0 0 m_X0_shift [vR l0] M (fun r M1 => ∃ x1 : Int32, r = some (vI x1) ∧ Ext M M1 ∧ ((¬ x1 = nI 0 → Cl X (d - 1) 0 0 m_X0_isHopeful [vR l0] M1 (fun r M2 => ∃ x2 : Int32, r = some (vI x2) ∧ Ext M1 M2 ∧ ((x2 = nI 0 → WA X d kc ns m_X0_next 23 [some (vR l0), some (vI (l1 + (nI 1)))] [] M2 Q) ∧ (¬ x2 = nI 0 → ∀ M3 : Mem, M3 = sI M2 l0 8 ((mI M2 l0 8) + (nI 1)) → vp_in (mI M3 l0 8) 10 ∧ ∀ M4 : Mem, M4 = sI M3 (l0 + 3) (ix (mI M3 l0 8)) (-1) → ((¬ (mI M4 l0 8) = (mI M4 l0 6) → WA X d kc ns m_X0_next 23 [some (vR l0), some (vI (l1 + (nI 1)))] [] M4 Q) ∧ ((mI M4 l0 8) = (mI M4 l0 6) → Q (some (vI (nI 1))) M4)))))) ∧ (x1 = nI 0 → ∀ M5 : Mem, M5 = sI M1 l0 8 ((mI M1 l0 8) - (nI 1)) → WA X d kc ns m_X0_next 23 [some (vR l0), some (vI (l1 + (nI 1)))] [] M5 Q)))))))))) :
    WA X d kc ns m_X0_next 23 [some (vR l0), some (vI l1)] [] M Q := by
  refine x_iload_n (tk K_X0_next 13 rfl) rfl rfl ?_
  refine x_ldc (tk K_X0_next 14 rfl) kc_X0_52 ?_
  refine x_icmp_ge (t := 113) (tk K_X0_next 15 rfl) rfl (fun hc => ?_) (fun hc => ?_)
  · have h := h.1 hc
    refine x_iconst (tk K_X0_next 58 rfl) ic_0 ?_
    exact x_ireturn (tk K_X0_next 59 rfl) rfl (fitZ (Or.inl rfl)).1 h
  · have h := h.2 hc
    refine x_aload_n (tk K_X0_next 16 rfl) rfl rfl ?_
    refine x_getI (tk K_X0_next 17 rfl) f_X0_37 rfl (CuS.o hS) ?_
    refine x_if_lt (t := 113) (tk K_X0_next 18 rfl) rfl (fun hc => ?_) (fun hc => ?_)
    · have h := h.1 hc
      refine x_iconst (tk K_X0_next 58 rfl) ic_0 ?_
      exact x_ireturn (tk K_X0_next 59 rfl) rfl (fitZ (Or.inl rfl)).1 h
    · have h := h.2 hc
      refine x_aload_n (tk K_X0_next 19 rfl) rfl rfl ?_
      refine x_getI (tk K_X0_next 20 rfl) f_X0_37 rfl (CuS.o hS) ?_
      refine x_aload_n (tk K_X0_next 21 rfl) rfl rfl ?_
      refine x_getI (tk K_X0_next 22 rfl) f_X0_31 rfl (CuS.o hS) ?_
      refine x_icmp_ge (t := 113) (tk K_X0_next 23 rfl) rfl (fun hc => ?_) (fun hc => ?_)
      · have h := h.1 hc
        refine x_iconst (tk K_X0_next 58 rfl) ic_0 ?_
        exact x_ireturn (tk K_X0_next 59 rfl) rfl (fitZ (Or.inl rfl)).1 h
      · have h := h.2 hc
        refine x_aload_n (tk K_X0_next 24 rfl) rfl rfl ?_
        refine x_callV0 (As := []) (S := []) (tk K_X0_next 25 rfl) mk_X0_53 mo_X0_shift (CuS.o hS) rfl rfl (Nat.le_of_ble_eq_true rfl) hd h (fun r M1 hq => ?_)
        obtain ⟨x1, rfl, hE, h⟩ := hq
        have hT0 := CuS.ext hS hE
        refine x_if_ne (t := 67) (tk K_X0_next 26 rfl) rfl (fun hc => ?_) (fun hc => ?_)
        · have h := h.1 hc
          refine x_aload_n (tk K_X0_next 34 rfl) rfl rfl ?_
          refine x_callV0 (As := []) (S := []) (tk K_X0_next 35 rfl) mk_X0_57 mo_X0_isHopeful (CuS.o hT0) rfl rfl (Nat.le_of_ble_eq_true rfl) hd h (fun r M2 hq => ?_)
          obtain ⟨x2, rfl, hE, h⟩ := hq
          have hT1 := CuS.ext hT0 hE
          refine x_if_eq (t := 107) (tk K_X0_next 36 rfl) rfl (fun hc => ?_) (fun hc => ?_)
          · have h := h.1 hc
            refine x_iincW (L' := [some (vR _), some (vI _)]) (tk K_X0_next 56 rfl) rfl ic_1 rfl (Nat.le_of_ble_eq_true rfl) rfl ?_
            refine x_goto (t := 23) (tk K_X0_next 57 rfl) rfl ?_
            exact h
          · have h := h.2 hc
            refine x_aload_n (tk K_X0_next 37 rfl) rfl rfl ?_
            refine x_dup (tk K_X0_next 38 rfl) rfl ?_
            refine x_getI (tk K_X0_next 39 rfl) f_X0_37 rfl (CuS.o hT1) ?_
            refine x_iconst (tk K_X0_next 40 rfl) ic_1 ?_
            refine x_iadd (tk K_X0_next 41 rfl) ?_
            have h := h _ rfl
            refine x_putI (tk K_X0_next 42 rfl) f_X0_37 rfl (Or.inl rfl) (CuS.o hT1) ?_
            refine x_aload_n (tk K_X0_next 43 rfl) rfl rfl ?_
            refine x_getRc (tk K_X0_next 44 rfl) f_X0_18 rfl (CuS.o hT1) (CuS.r2 hT1) ?_
            refine x_aload_n (tk K_X0_next 45 rfl) rfl rfl ?_
            refine x_getI (tk K_X0_next 46 rfl) f_X0_37 rfl (CuS.o hT1) ?_
            refine x_iconst (tk K_X0_next 47 rfl) ic_m1 ?_
            have hi := h.1
            have h := h.2
            have h := h _ rfl
            refine x_iast (tk K_X0_next 48 rfl) (CuS.k2 hT1) hi ?_
            refine x_aload_n (tk K_X0_next 49 rfl) rfl rfl ?_
            refine x_getI (tk K_X0_next 50 rfl) f_X0_37 rfl (CuS.o hT1) ?_
            refine x_aload_n (tk K_X0_next 51 rfl) rfl rfl ?_
            refine x_getI (tk K_X0_next 52 rfl) f_X0_31 rfl (CuS.o hT1) ?_
            refine x_icmp_ne (t := 107) (tk K_X0_next 53 rfl) rfl (fun hc => ?_) (fun hc => ?_)
            · have h := h.1 hc
              refine x_iincW (L' := [some (vR _), some (vI _)]) (tk K_X0_next 56 rfl) rfl ic_1 rfl (Nat.le_of_ble_eq_true rfl) rfl ?_
              refine x_goto (t := 23) (tk K_X0_next 57 rfl) rfl ?_
              exact h
            · have h := h.2 hc
              refine x_iconst (tk K_X0_next 54 rfl) ic_1 ?_
              exact x_ireturn (tk K_X0_next 55 rfl) rfl (fitZ (Or.inr rfl)).1 h
        · have h := h.2 hc
          refine x_aload_n (tk K_X0_next 27 rfl) rfl rfl ?_
          refine x_dup (tk K_X0_next 28 rfl) rfl ?_
          refine x_getI (tk K_X0_next 29 rfl) f_X0_37 rfl (CuS.o hT0) ?_
          refine x_iconst (tk K_X0_next 30 rfl) ic_1 ?_
          refine x_isub (tk K_X0_next 31 rfl) ?_
          have h := h _ rfl
          refine x_putI (tk K_X0_next 32 rfl) f_X0_37 rfl (Or.inl rfl) (CuS.o hT0) ?_
          refine x_goto (t := 107) (tk K_X0_next 33 rfl) rfl ?_
          refine x_iincW (L' := [some (vR _), some (vI _)]) (tk K_X0_next 56 rfl) rfl ic_1 rfl (Nat.le_of_ble_eq_true rfl) rfl ?_
          refine x_goto (t := 23) (tk K_X0_next 57 rfl) rfl ?_
          exact h

theorem e_X0_next {X : Cx} {d kc ns : Nat} {M : Mem} {Q : Option AV → Mem → Prop} {a0 : Nat} (h : WA X d kc ns m_X0_next 0 [some (vR a0), none] [] M Q) : Cl X d kc ns m_X0_next [vR a0] M Q := Cl.intro (k := 1) (by decide) rfl rfl h

-- TwoPencils$Cutter.shift()Z
theorem b_X0_shift_0 {X : Cx} {d kc ns : Nat} {M : Mem} {Q : Option AV → Mem → Prop} {l0 : Nat} (hS : CuS M l0)
    (h : vp_in (mI M l0 8) 10 ∧ ∀ x1 : Int32, x1 = (shl (nI 1) (mI M (l0 + 2) (ix (mI M l0 8)))) → vp_in (mI M l0 8) 10 ∧ ∀ x2 : Int32, x2 = (mI M (l0 + 3) (ix (mI M l0 8))) → ((x2 < nI 0 → WA X d kc ns m_X0_shift 38 [some (vR l0), some (vI x1), some (vI x2), none] [] M Q) ∧ (¬ x2 < nI 0 → vp_in x2 8 ∧ vp_in x2 8 ∧ ∀ M1 : Mem, M1 = sI M (l0 + 1) (ix x2) ((mI M (l0 + 1) (ix x2)) &&& (x1 ^^^ (-1))) → WA X d kc ns m_X0_shift 38 [some (vR l0), some (vI x1), some (vI x2), none] [] M1 Q))) :
    WA X d kc ns m_X0_shift 0 [some (vR l0), none, none, none] [] M Q := by
  refine x_iconst (tk K_X0_shift 0 rfl) ic_1 ?_
  refine x_aload_n (tk K_X0_shift 1 rfl) rfl rfl ?_
  refine x_getRc (tk K_X0_shift 2 rfl) f_X0_15 rfl (CuS.o hS) (CuS.r1 hS) ?_
  refine x_aload_n (tk K_X0_shift 3 rfl) rfl rfl ?_
  refine x_getI (tk K_X0_shift 4 rfl) f_X0_37 rfl (CuS.o hS) ?_
  have hi := h.1
  have h := h.2
  refine x_iald (tk K_X0_shift 5 rfl) (CuS.k1 hS) hi ?_
  refine x_ishl (tk K_X0_shift 6 rfl) ?_
  have h := h _ rfl
  refine x_istore_n (L' := [some (vR _), some (vI _), none, none]) (tk K_X0_shift 7 rfl) rfl rfl (Nat.le_of_ble_eq_true rfl) rfl ?_
  refine x_aload_n (tk K_X0_shift 8 rfl) rfl rfl ?_
  refine x_getRc (tk K_X0_shift 9 rfl) f_X0_18 rfl (CuS.o hS) (CuS.r2 hS) ?_
  refine x_aload_n (tk K_X0_shift 10 rfl) rfl rfl ?_
  refine x_getI (tk K_X0_shift 11 rfl) f_X0_37 rfl (CuS.o hS) ?_
  have hi := h.1
  have h := h.2
  refine x_iald (tk K_X0_shift 12 rfl) (CuS.k2 hS) hi ?_
  have h := h _ rfl
  refine x_istore_n (L' := [some (vR _), some (vI _), some (vI _), none]) (tk K_X0_shift 13 rfl) rfl rfl (Nat.le_of_ble_eq_true rfl) rfl ?_
  refine x_iload_n (tk K_X0_shift 14 rfl) rfl rfl ?_
  refine x_if_lt (t := 38) (tk K_X0_shift 15 rfl) rfl (fun hc => ?_) (fun hc => ?_)
  · have h := h.1 hc
    exact h
  · have h := h.2 hc
    refine x_aload_n (tk K_X0_shift 16 rfl) rfl rfl ?_
    refine x_getRc (tk K_X0_shift 17 rfl) f_X0_9 rfl (CuS.o hS) (CuS.r0 hS) ?_
    refine x_iload_n (tk K_X0_shift 18 rfl) rfl rfl ?_
    refine x_dup2 (tk K_X0_shift 19 rfl) rfl rfl ?_
    have hi := h.1
    have h := h.2
    refine x_iald (tk K_X0_shift 20 rfl) (CuS.k0 hS) hi ?_
    refine x_iload_n (tk K_X0_shift 21 rfl) rfl rfl ?_
    refine x_iconst (tk K_X0_shift 22 rfl) ic_m1 ?_
    refine x_ixor (tk K_X0_shift 23 rfl) ?_
    refine x_iand (tk K_X0_shift 24 rfl) ?_
    have hi := h.1
    have h := h.2
    have h := h _ rfl
    refine x_iast (tk K_X0_shift 25 rfl) (CuS.k0 hS) hi ?_
    exact h

theorem b_X0_shift_38 {X : Cx} {d kc ns : Nat} {M : Mem} {Q : Option AV → Mem → Prop} {l0 : Nat} {l1 : Int32} {l2 : Int32} (hS : CuS M l0)
    (h : ∀ x1 : Int32, x1 = (l2 + (nI 1)) → vp_in (mI M l0 8) 11 ∧ (((mI M (l0 + 4) (ix (mI M l0 8))) < x1 → Q (some (vI (nI 0))) M) ∧ (¬ (mI M (l0 + 4) (ix (mI M l0 8))) < x1 → ((x1 < (mI M l0 7) → vp_in x1 8 ∧ vp_in x1 8 ∧ ∀ M1 : Mem, M1 = sI M (l0 + 1) (ix x1) ((mI M (l0 + 1) (ix x1)) ||| l1) → vp_in (mI M1 l0 8) 10 ∧ ∀ M2 : Mem, M2 = sI M1 (l0 + 3) (ix (mI M1 l0 8)) x1 → vp_in (mI M2 l0 8) 11 ∧ ((¬ x1 = (mI M2 (l0 + 4) (ix (mI M2 l0 8))) → vp_in (mI M2 l0 8) 11 ∧ WA X d kc ns m_X0_shift 123 [some (vR l0), none, none, none] [vI (mI M2 (l0 + 4) (ix (mI M2 l0 8))), vI ((mI M2 l0 8) + (nI 1)), vR (l0 + 4)] M2 Q) ∧ (x1 = (mI M2 (l0 + 4) (ix (mI M2 l0 8))) → WA X d kc ns m_X0_shift 123 [some (vR l0), none, none, none] [vI (x1 + (nI 1)), vI ((mI M2 l0 8) + (nI 1)), vR (l0 + 4)] M2 Q))) ∧ (¬ x1 < (mI M l0 7) → Q (some (vI (nI 0))) M))))) :
    WA X d kc ns m_X0_shift 38 [some (vR l0), some (vI l1), some (vI l2), none] [] M Q := by
  refine x_iload_n (tk K_X0_shift 26 rfl) rfl rfl ?_
  refine x_iconst (tk K_X0_shift 27 rfl) ic_1 ?_
  refine x_iadd (tk K_X0_shift 28 rfl) ?_
  have h := h _ rfl
  refine x_istore_n (L' := [some (vR _), some (vI _), some (vI _), some (vI _)]) (tk K_X0_shift 29 rfl) rfl rfl (Nat.le_of_ble_eq_true rfl) rfl ?_
  refine x_iload_n (tk K_X0_shift 30 rfl) rfl rfl ?_
  refine x_aload_n (tk K_X0_shift 31 rfl) rfl rfl ?_
  refine x_getRc (tk K_X0_shift 32 rfl) f_X0_21 rfl (CuS.o hS) (CuS.r3 hS) ?_
  refine x_aload_n (tk K_X0_shift 33 rfl) rfl rfl ?_
  refine x_getI (tk K_X0_shift 34 rfl) f_X0_37 rfl (CuS.o hS) ?_
  have hi := h.1
  have h := h.2
  refine x_iald (tk K_X0_shift 35 rfl) (CuS.k3 hS) hi ?_
  refine x_icmp_gt (t := 63) (tk K_X0_shift 36 rfl) rfl (fun hc => ?_) (fun hc => ?_)
  · have h := h.1 hc
    refine x_iconst (tk K_X0_shift 41 rfl) ic_0 ?_
    exact x_ireturn (tk K_X0_shift 42 rfl) rfl (fitZ (Or.inl rfl)).1 h
  · have h := h.2 hc
    refine x_iload_n (tk K_X0_shift 37 rfl) rfl rfl ?_
    refine x_aload_n (tk K_X0_shift 38 rfl) rfl rfl ?_
    refine x_getI (tk K_X0_shift 39 rfl) f_X0_34 rfl (CuS.o hS) ?_
    refine x_icmp_lt (t := 65) (tk K_X0_shift 40 rfl) rfl (fun hc => ?_) (fun hc => ?_)
    · have h := h.1 hc
      refine x_aload_n (tk K_X0_shift 43 rfl) rfl rfl ?_
      refine x_getRc (tk K_X0_shift 44 rfl) f_X0_9 rfl (CuS.o hS) (CuS.r0 hS) ?_
      refine x_iload_n (tk K_X0_shift 45 rfl) rfl rfl ?_
      refine x_dup2 (tk K_X0_shift 46 rfl) rfl rfl ?_
      have hi := h.1
      have h := h.2
      refine x_iald (tk K_X0_shift 47 rfl) (CuS.k0 hS) hi ?_
      refine x_iload_n (tk K_X0_shift 48 rfl) rfl rfl ?_
      refine x_ior (tk K_X0_shift 49 rfl) ?_
      have hi := h.1
      have h := h.2
      have h := h _ rfl
      refine x_iast (tk K_X0_shift 50 rfl) (CuS.k0 hS) hi ?_
      refine x_aload_n (tk K_X0_shift 51 rfl) rfl rfl ?_
      refine x_getRc (tk K_X0_shift 52 rfl) f_X0_18 rfl (CuS.o hS) (CuS.r2 hS) ?_
      refine x_aload_n (tk K_X0_shift 53 rfl) rfl rfl ?_
      refine x_getI (tk K_X0_shift 54 rfl) f_X0_37 rfl (CuS.o hS) ?_
      refine x_iload_n (tk K_X0_shift 55 rfl) rfl rfl ?_
      have hi := h.1
      have h := h.2
      have h := h _ rfl
      refine x_iast (tk K_X0_shift 56 rfl) (CuS.k2 hS) hi ?_
      refine x_aload_n (tk K_X0_shift 57 rfl) rfl rfl ?_
      refine x_getRc (tk K_X0_shift 58 rfl) f_X0_21 rfl (CuS.o hS) (CuS.r3 hS) ?_
      refine x_aload_n (tk K_X0_shift 59 rfl) rfl rfl ?_
      refine x_getI (tk K_X0_shift 60 rfl) f_X0_37 rfl (CuS.o hS) ?_
      refine x_iconst (tk K_X0_shift 61 rfl) ic_1 ?_
      refine x_iadd (tk K_X0_shift 62 rfl) ?_
      refine x_iload_n (tk K_X0_shift 63 rfl) rfl rfl ?_
      refine x_aload_n (tk K_X0_shift 64 rfl) rfl rfl ?_
      refine x_getRc (tk K_X0_shift 65 rfl) f_X0_21 rfl (CuS.o hS) (CuS.r3 hS) ?_
      refine x_aload_n (tk K_X0_shift 66 rfl) rfl rfl ?_
      refine x_getI (tk K_X0_shift 67 rfl) f_X0_37 rfl (CuS.o hS) ?_
      have hi := h.1
      have h := h.2
      refine x_iald (tk K_X0_shift 68 rfl) (CuS.k3 hS) hi ?_
      refine x_icmp_ne (t := 114) (tk K_X0_shift 69 rfl) rfl (fun hc => ?_) (fun hc => ?_)
      · have h := h.1 hc
        refine x_aload_n (tk K_X0_shift 74 rfl) rfl rfl ?_
        refine x_getRc (tk K_X0_shift 75 rfl) f_X0_21 rfl (CuS.o hS) (CuS.r3 hS) ?_
        refine x_aload_n (tk K_X0_shift 76 rfl) rfl rfl ?_
        refine x_getI (tk K_X0_shift 77 rfl) f_X0_37 rfl (CuS.o hS) ?_
        have hi := h.1
        have h := h.2
        refine x_iald (tk K_X0_shift 78 rfl) (CuS.k3 hS) hi ?_
        refine x_msk [true, false, false, false] ?_
        exact h
      · have h := h.2 hc
        refine x_iload_n (tk K_X0_shift 70 rfl) rfl rfl ?_
        refine x_iconst (tk K_X0_shift 71 rfl) ic_1 ?_
        refine x_iadd (tk K_X0_shift 72 rfl) ?_
        refine x_goto (t := 123) (tk K_X0_shift 73 rfl) rfl ?_
        refine x_msk [true, false, false, false] ?_
        exact h
    · have h := h.2 hc
      refine x_iconst (tk K_X0_shift 41 rfl) ic_0 ?_
      exact x_ireturn (tk K_X0_shift 42 rfl) rfl (fitZ (Or.inl rfl)).1 h

theorem b_X0_shift_123 {X : Cx} {d kc ns : Nat} {M : Mem} {Q : Option AV → Mem → Prop} {l0 : Nat} {s0 : Nat} {s1 : Int32} {s2 : Int32} (hS : CuS M l0)
    (h : ∃ n1 : Nat, isK M s0 14 n1 ∧ vp_in s1 n1 ∧ ∀ M1 : Mem, M1 = sI M s0 (ix s1) s2 → Q (some (vI (nI 1))) M1) :
    WA X d kc ns m_X0_shift 123 [some (vR l0), none, none, none] [vI s2, vI s1, vR s0] M Q := by
  obtain ⟨n1, hA_n1, h⟩ := h
  have hi := h.1
  have h := h.2
  have h := h _ rfl
  refine x_iast (tk K_X0_shift 79 rfl) hA_n1 hi ?_
  refine x_iconst (tk K_X0_shift 80 rfl) ic_1 ?_
  exact x_ireturn (tk K_X0_shift 81 rfl) rfl (fitZ (Or.inr rfl)).1 h

theorem e_X0_shift {X : Cx} {d kc ns : Nat} {M : Mem} {Q : Option AV → Mem → Prop} {a0 : Nat} (h : WA X d kc ns m_X0_shift 0 [some (vR a0), none, none, none] [] M Q) : Cl X d kc ns m_X0_shift [vR a0] M Q := Cl.intro (k := 3) (by decide) rfl rfl h

-- TwoPencils$Cutter.isHopeful()Z
theorem b_X0_isHopeful_0 {X : Cx} {d kc ns : Nat} {M : Mem} {Q : Option AV → Mem → Prop} {l0 : Nat} (hS : CuS M l0)
    (h : vp_in ((mI M l0 8) + (nI 1)) 11 ∧ ∀ x1 : Int32, x1 = (mI M (l0 + 4) (ix ((mI M l0 8) + (nI 1)))) → ∀ x2 : Int32, x2 = (((mI M l0 6) - (mI M l0 8)) - (nI 1)) → (((mI M l0 7) ≤ (x1 + x2) → vp_in ((mI M l0 8) + (nI 1)) 10 ∧ ∀ x3 : Int32, x3 = (mI M (l0 + 2) (ix ((mI M l0 8) + (nI 1)))) → WA X d kc ns m_X0_isHopeful 51 [some (vR l0), some (vI x1), none, some (vI x3), some (vI (nI 0))] [] M Q) ∧ (¬ (mI M l0 7) ≤ (x1 + x2) → Q (some (vI (nI 0))) M))) :
    WA X d kc ns m_X0_isHopeful 0 [some (vR l0), none, none, none, none] [] M Q := by
  refine x_aload_n (tk K_X0_isHopeful 0 rfl) rfl rfl ?_
  refine x_getRc (tk K_X0_isHopeful 1 rfl) f_X0_21 rfl (CuS.o hS) (CuS.r3 hS) ?_
  refine x_aload_n (tk K_X0_isHopeful 2 rfl) rfl rfl ?_
  refine x_getI (tk K_X0_isHopeful 3 rfl) f_X0_37 rfl (CuS.o hS) ?_
  refine x_iconst (tk K_X0_isHopeful 4 rfl) ic_1 ?_
  refine x_iadd (tk K_X0_isHopeful 5 rfl) ?_
  have hi := h.1
  have h := h.2
  refine x_iald (tk K_X0_isHopeful 6 rfl) (CuS.k3 hS) hi ?_
  have h := h _ rfl
  refine x_istore_n (L' := [some (vR _), some (vI _), none, none, none]) (tk K_X0_isHopeful 7 rfl) rfl rfl (Nat.le_of_ble_eq_true rfl) rfl ?_
  refine x_aload_n (tk K_X0_isHopeful 8 rfl) rfl rfl ?_
  refine x_getI (tk K_X0_isHopeful 9 rfl) f_X0_31 rfl (CuS.o hS) ?_
  refine x_aload_n (tk K_X0_isHopeful 10 rfl) rfl rfl ?_
  refine x_getI (tk K_X0_isHopeful 11 rfl) f_X0_37 rfl (CuS.o hS) ?_
  refine x_isub (tk K_X0_isHopeful 12 rfl) ?_
  refine x_iconst (tk K_X0_isHopeful 13 rfl) ic_1 ?_
  refine x_isub (tk K_X0_isHopeful 14 rfl) ?_
  have h := h _ rfl
  refine x_istore_n (L' := [some (vR _), some (vI _), some (vI _), none, none]) (tk K_X0_isHopeful 15 rfl) rfl rfl (Nat.le_of_ble_eq_true rfl) rfl ?_
  refine x_iload_n (tk K_X0_isHopeful 16 rfl) rfl rfl ?_
  refine x_iload_n (tk K_X0_isHopeful 17 rfl) rfl rfl ?_
  refine x_iadd (tk K_X0_isHopeful 18 rfl) ?_
  refine x_aload_n (tk K_X0_isHopeful 19 rfl) rfl rfl ?_
  refine x_getI (tk K_X0_isHopeful 20 rfl) f_X0_34 rfl (CuS.o hS) ?_
  refine x_icmp_ge (t := 36) (tk K_X0_isHopeful 21 rfl) rfl (fun hc => ?_) (fun hc => ?_)
  · have h := h.1 hc
    refine x_aload_n (tk K_X0_isHopeful 24 rfl) rfl rfl ?_
    refine x_getRc (tk K_X0_isHopeful 25 rfl) f_X0_15 rfl (CuS.o hS) (CuS.r1 hS) ?_
    refine x_aload_n (tk K_X0_isHopeful 26 rfl) rfl rfl ?_
    refine x_getI (tk K_X0_isHopeful 27 rfl) f_X0_37 rfl (CuS.o hS) ?_
    refine x_iconst (tk K_X0_isHopeful 28 rfl) ic_1 ?_
    refine x_iadd (tk K_X0_isHopeful 29 rfl) ?_
    have hi := h.1
    have h := h.2
    refine x_iald (tk K_X0_isHopeful 30 rfl) (CuS.k1 hS) hi ?_
    have h := h _ rfl
    refine x_istore_n (L' := [some (vR _), some (vI _), some (vI _), some (vI _), none]) (tk K_X0_isHopeful 31 rfl) rfl rfl (Nat.le_of_ble_eq_true rfl) rfl ?_
    refine x_iconst (tk K_X0_isHopeful 32 rfl) ic_0 ?_
    refine x_istore (L' := [some (vR _), some (vI _), some (vI _), some (vI _), some (vI _)]) (tk K_X0_isHopeful 33 rfl) rfl (Nat.le_of_ble_eq_true rfl) rfl ?_
    refine x_msk [true, true, false, true, true] ?_
    exact h
  · have h := h.2 hc
    refine x_iconst (tk K_X0_isHopeful 22 rfl) ic_0 ?_
    exact x_ireturn (tk K_X0_isHopeful 23 rfl) rfl (fitZ (Or.inl rfl)).1 h

theorem b_X0_isHopeful_51 {X : Cx} {d kc ns : Nat} {M : Mem} {Q : Option AV → Mem → Prop} {l0 : Nat} {l1 : Int32} {l3 : Int32} {l4 : Int32} (hS : CuS M l0)
    (h : ((l1 ≤ l4 → Q (some (vI (nI 1))) M) ∧ (¬ l1 ≤ l4 → vp_in l4 8 ∧ ∃ n1 : Nat, isK M (mR M l0 4) 14 n1 ∧ (((nI n1) ≤ (mI M (l0 + 1) (ix l4)) → Q (some (vI (nI 0))) M) ∧ (¬ (nI n1) ≤ (mI M (l0 + 1) (ix l4)) → vp_in l4 8 ∧ vp_in (mI M (l0 + 1) (ix l4)) n1 ∧ ((¬ ((shr (mI M (mR M l0 4) (ix (mI M (l0 + 1) (ix l4)))) l3) &&& (nI 1)) = nI 0 → WA X d kc ns m_X0_isHopeful 51 [some (vR l0), some (vI l1), none, some (vI l3), some (vI (l4 + (nI 1)))] [] M Q) ∧ (((shr (mI M (mR M l0 4) (ix (mI M (l0 + 1) (ix l4)))) l3) &&& (nI 1)) = nI 0 → Q (some (vI (nI 0))) M))))))) :
    WA X d kc ns m_X0_isHopeful 51 [some (vR l0), some (vI l1), none, some (vI l3), some (vI l4)] [] M Q := by
  refine x_iload (tk K_X0_isHopeful 34 rfl) rfl ?_
  refine x_iload_n (tk K_X0_isHopeful 35 rfl) rfl rfl ?_
  refine x_icmp_ge (t := 99) (tk K_X0_isHopeful 36 rfl) rfl (fun hc => ?_) (fun hc => ?_)
  · have h := h.1 hc
    refine x_iconst (tk K_X0_isHopeful 61 rfl) ic_1 ?_
    exact x_ireturn (tk K_X0_isHopeful 62 rfl) rfl (fitZ (Or.inr rfl)).1 h
  · have h := h.2 hc
    refine x_aload_n (tk K_X0_isHopeful 37 rfl) rfl rfl ?_
    refine x_getRc (tk K_X0_isHopeful 38 rfl) f_X0_9 rfl (CuS.o hS) (CuS.r0 hS) ?_
    refine x_iload (tk K_X0_isHopeful 39 rfl) rfl ?_
    have hi := h.1
    have h := h.2
    refine x_iald (tk K_X0_isHopeful 40 rfl) (CuS.k0 hS) hi ?_
    refine x_aload_n (tk K_X0_isHopeful 41 rfl) rfl rfl ?_
    refine x_getR (tk K_X0_isHopeful 42 rfl) f_X0_24 rfl (CuS.o hS) ?_
    obtain ⟨n1, hA_n1, h⟩ := h
    refine x_alen (tk K_X0_isHopeful 43 rfl) hA_n1 rfl ?_
    refine x_icmp_ge (t := 91) (tk K_X0_isHopeful 44 rfl) rfl (fun hc => ?_) (fun hc => ?_)
    · have h := h.1 hc
      refine x_iconst (tk K_X0_isHopeful 57 rfl) ic_0 ?_
      exact x_ireturn (tk K_X0_isHopeful 58 rfl) rfl (fitZ (Or.inl rfl)).1 h
    · have h := h.2 hc
      refine x_aload_n (tk K_X0_isHopeful 45 rfl) rfl rfl ?_
      refine x_getR (tk K_X0_isHopeful 46 rfl) f_X0_24 rfl (CuS.o hS) ?_
      refine x_aload_n (tk K_X0_isHopeful 47 rfl) rfl rfl ?_
      refine x_getRc (tk K_X0_isHopeful 48 rfl) f_X0_9 rfl (CuS.o hS) (CuS.r0 hS) ?_
      refine x_iload (tk K_X0_isHopeful 49 rfl) rfl ?_
      have hi := h.1
      have h := h.2
      refine x_iald (tk K_X0_isHopeful 50 rfl) (CuS.k0 hS) hi ?_
      have hi := h.1
      have h := h.2
      refine x_iald (tk K_X0_isHopeful 51 rfl) hA_n1 hi ?_
      refine x_iload_n (tk K_X0_isHopeful 52 rfl) rfl rfl ?_
      refine x_ishr (tk K_X0_isHopeful 53 rfl) ?_
      refine x_iconst (tk K_X0_isHopeful 54 rfl) ic_1 ?_
      refine x_iand (tk K_X0_isHopeful 55 rfl) ?_
      refine x_if_ne (t := 93) (tk K_X0_isHopeful 56 rfl) rfl (fun hc => ?_) (fun hc => ?_)
      · have h := h.1 hc
        refine x_iincW (L' := [some (vR _), some (vI _), none, some (vI _), some (vI _)]) (tk K_X0_isHopeful 59 rfl) rfl ic_1 rfl (Nat.le_of_ble_eq_true rfl) rfl ?_
        refine x_goto (t := 51) (tk K_X0_isHopeful 60 rfl) rfl ?_
        exact h
      · have h := h.2 hc
        refine x_iconst (tk K_X0_isHopeful 57 rfl) ic_0 ?_
        exact x_ireturn (tk K_X0_isHopeful 58 rfl) rfl (fitZ (Or.inl rfl)).1 h

theorem e_X0_isHopeful {X : Cx} {d kc ns : Nat} {M : Mem} {Q : Option AV → Mem → Prop} {a0 : Nat} (h : WA X d kc ns m_X0_isHopeful 0 [some (vR a0), none, none, none, none] [] M Q) : Cl X d kc ns m_X0_isHopeful [vR a0] M Q := Cl.intro (k := 4) (by decide) rfl rfl h

-- TwoPencils$Cutter.number(I)I
theorem b_X0_number_0 {X : Cx} {d kc ns : Nat} {M : Mem} {Q : Option AV → Mem → Prop} {l0 : Nat} {l1 : Int32} (hS : CuS M l0)
    (h : WA X d kc ns m_X0_number 4 [some (vR l0), some (vI l1), some (vI (nI 0)), some (vI (nI 0))] [] M Q) :
    WA X d kc ns m_X0_number 0 [some (vR l0), some (vI l1), none, none] [] M Q := by
  refine x_iconst (tk K_X0_number 0 rfl) ic_0 ?_
  refine x_istore_n (L' := [some (vR _), some (vI _), some (vI _), none]) (tk K_X0_number 1 rfl) rfl rfl (Nat.le_of_ble_eq_true rfl) rfl ?_
  refine x_iconst (tk K_X0_number 2 rfl) ic_0 ?_
  refine x_istore_n (L' := [some (vR _), some (vI _), some (vI _), some (vI _)]) (tk K_X0_number 3 rfl) rfl rfl (Nat.le_of_ble_eq_true rfl) rfl ?_
  exact h

theorem b_X0_number_4 {X : Cx} {d kc ns : Nat} {M : Mem} {Q : Option AV → Mem → Prop} {l0 : Nat} {l1 : Int32} {l2 : Int32} {l3 : Int32} (hS : CuS M l0)
    (h : (((mI M l0 6) ≤ l3 → Q (some (vI l2)) M) ∧ (¬ (mI M l0 6) ≤ l3 → vp_in l3 10 ∧ vp_in l3 10 ∧ ∀ x1 : Int32, x1 = (l2 ||| (shl (mI M (l0 + 3) (ix l3)) (l1 * (((mI M l0 5) - (nI 1)) - (mI M (l0 + 2) (ix l3)))))) → WA X d kc ns m_X0_number 4 [some (vR l0), some (vI l1), some (vI x1), some (vI (l3 + (nI 1)))] [] M Q))) :
    WA X d kc ns m_X0_number 4 [some (vR l0), some (vI l1), some (vI l2), some (vI l3)] [] M Q := by
  refine x_iload_n (tk K_X0_number 4 rfl) rfl rfl ?_
  refine x_aload_n (tk K_X0_number 5 rfl) rfl rfl ?_
  refine x_getI (tk K_X0_number 6 rfl) f_X0_31 rfl (CuS.o hS) ?_
  refine x_icmp_ge (t := 43) (tk K_X0_number 7 rfl) rfl (fun hc => ?_) (fun hc => ?_)
  · have h := h.1 hc
    refine x_iload_n (tk K_X0_number 29 rfl) rfl rfl ?_
    exact x_ireturn (tk K_X0_number 30 rfl) rfl rfl h
  · have h := h.2 hc
    refine x_iload_n (tk K_X0_number 8 rfl) rfl rfl ?_
    refine x_aload_n (tk K_X0_number 9 rfl) rfl rfl ?_
    refine x_getRc (tk K_X0_number 10 rfl) f_X0_18 rfl (CuS.o hS) (CuS.r2 hS) ?_
    refine x_iload_n (tk K_X0_number 11 rfl) rfl rfl ?_
    have hi := h.1
    have h := h.2
    refine x_iald (tk K_X0_number 12 rfl) (CuS.k2 hS) hi ?_
    refine x_iload_n (tk K_X0_number 13 rfl) rfl rfl ?_
    refine x_aload_n (tk K_X0_number 14 rfl) rfl rfl ?_
    refine x_getI (tk K_X0_number 15 rfl) f_X0_27 rfl (CuS.o hS) ?_
    refine x_iconst (tk K_X0_number 16 rfl) ic_1 ?_
    refine x_isub (tk K_X0_number 17 rfl) ?_
    refine x_aload_n (tk K_X0_number 18 rfl) rfl rfl ?_
    refine x_getRc (tk K_X0_number 19 rfl) f_X0_15 rfl (CuS.o hS) (CuS.r1 hS) ?_
    refine x_iload_n (tk K_X0_number 20 rfl) rfl rfl ?_
    have hi := h.1
    have h := h.2
    refine x_iald (tk K_X0_number 21 rfl) (CuS.k1 hS) hi ?_
    refine x_isub (tk K_X0_number 22 rfl) ?_
    refine x_imul (tk K_X0_number 23 rfl) ?_
    refine x_ishl (tk K_X0_number 24 rfl) ?_
    refine x_ior (tk K_X0_number 25 rfl) ?_
    have h := h _ rfl
    refine x_istore_n (L' := [some (vR _), some (vI _), some (vI _), some (vI _)]) (tk K_X0_number 26 rfl) rfl rfl (Nat.le_of_ble_eq_true rfl) rfl ?_
    refine x_iincW (L' := [some (vR _), some (vI _), some (vI _), some (vI _)]) (tk K_X0_number 27 rfl) rfl ic_1 rfl (Nat.le_of_ble_eq_true rfl) rfl ?_
    refine x_goto (t := 4) (tk K_X0_number 28 rfl) rfl ?_
    exact h

theorem e_X0_number {X : Cx} {d kc ns : Nat} {M : Mem} {Q : Option AV → Mem → Prop} {a0 : Nat} {a1 : Int32} (h : WA X d kc ns m_X0_number 0 [some (vR a0), some (vI a1), none, none] [] M Q) : Cl X d kc ns m_X0_number [vR a0, vI a1] M Q := Cl.intro (k := 2) (by decide) rfl rfl h
