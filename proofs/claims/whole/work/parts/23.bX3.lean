-- TwoPencils$Land.<init>(LTwoPencils$LandText;)V
theorem b_X3_init_0 {X : Cx} {d kc ns : Nat} {M : Mem} {Q : Option AV → Mem → Prop} {l0 : Nat} {l1 : Nat} (hS : isK M l0 3 16) (hd : 1 ≤ d)
    (h : vp_in (nI 16) 65536 ∧ 1 ≤ kc ∧ ix (nI 16) ≤ ns ∧ ∀ M1 : Mem, M1 = nw M 14 (ix (nI 16)) → ∀ M2 : Mem, M2 = sR M1 l0 12 (nx M) → ∀ M3 : Mem, M3 = sI M2 l0 14 (nI 1) → ∀ M4 : Mem, M4 = sI M3 l0 15 (nI 0) → isK M4 l1 4 7 ∧ ∀ M5 : Mem, M5 = sI M4 l0 0 (mI M4 l1 0) → ∀ M6 : Mem, M6 = sI M5 l0 1 (mI M5 l1 1) → ∀ M7 : Mem, M7 = sI M6 l0 2 (mI M6 l1 2) → ∀ M8 : Mem, M8 = sI M7 l0 3 (mI M7 l1 3) → ∀ M9 : Mem, M9 = sI M8 l0 4 ((shl (nI 1) (mI M8 l0 0)) - (nI 1)) → ∃ n2 : Nat, isK M9 (mR M9 l1 4) 14 n2 ∧ 1 ≤ (kc - 1) ∧ n2 ≤ (ns - ix (nI 16)) ∧ ∀ M10 : Mem, M10 = nwc M9 (mR M9 l1 4) n2 → ∀ M11 : Mem, M11 = sR M10 l0 5 (nx M9) → ∃ n3 : Nat, isK M11 (mR M11 l1 5) 14 n3 ∧ 1 ≤ ((kc - 1) - 1) ∧ n3 ≤ ((ns - ix (nI 16)) - n2) ∧ ∀ M12 : Mem, M12 = nwc M11 (mR M11 l1 5) n3 → ∀ M13 : Mem, M13 = sR M12 l0 6 (nx M11) → ∃ n4 : Nat, isK M13 (mR M13 l1 6) 14 n4 ∧ 1 ≤ (((kc - 1) - 1) - 1) ∧ n4 ≤ (((ns - ix (nI 16)) - n2) - n3) ∧ ∀ M14 : Mem, M14 = nwc M13 (mR M13 l1 6) n4 → ∀ M15 : Mem, M15 = sR M14 l0 7 (nx M13) → vp_in (shl (nI 1) (mI M15 l0 0)) 65536 ∧ 1 ≤ ((((kc - 1) - 1) - 1) - 1) ∧ ix (shl (nI 1) (mI M15 l0 0)) ≤ ((((ns - ix (nI 16)) - n2) - n3) - n4) ∧ ∀ M16 : Mem, M16 = nw M15 14 (ix (shl (nI 1) (mI M15 l0 0))) → ∀ M17 : Mem, M17 = sR M16 l0 8 (nx M15) → vp_in (shl (nI 1) (mI M17 l0 0)) 65536 ∧ 1 ≤ (((((kc - 1) - 1) - 1) - 1) - 1) ∧ ix (shl (nI 1) (mI M17 l0 0)) ≤ (((((ns - ix (nI 16)) - n2) - n3) - n4) - ix (shl (nI 1) (mI M15 l0 0))) ∧ ∀ M18 : Mem, M18 = nw M17 12 (ix (shl (nI 1) (mI M17 l0 0))) → ∀ M19 : Mem, M19 = sR M18 l0 9 (nx M17) → vp_in (shl (nI 1) (mI M19 l0 0)) 65536 ∧ 1 ≤ ((((((kc - 1) - 1) - 1) - 1) - 1) - 1) ∧ ix (shl (nI 1) (mI M19 l0 0)) ≤ ((((((ns - ix (nI 16)) - n2) - n3) - n4) - ix (shl (nI 1) (mI M15 l0 0))) - ix (shl (nI 1) (mI M17 l0 0))) ∧ ∀ M20 : Mem, M20 = nw M19 14 (ix (shl (nI 1) (mI M19 l0 0))) → ∀ M21 : Mem, M21 = sR M20 l0 10 (nx M19) → vp_in (shl (nI 1) (mI M21 l0 0)) 65536 ∧ 1 ≤ (((((((kc - 1) - 1) - 1) - 1) - 1) - 1) - 1) ∧ ix (shl (nI 1) (mI M21 l0 0)) ≤ (((((((ns - ix (nI 16)) - n2) - n3) - n4) - ix (shl (nI 1) (mI M15 l0 0))) - ix (shl (nI 1) (mI M17 l0 0))) - ix (shl (nI 1) (mI M19 l0 0))) ∧ ∀ M22 : Mem, M22 = nw M21 14 (ix (shl (nI 1) (mI M21 l0 0))) → ∀ M23 : Mem, M23 = sR M22 l0 11 (nx M21) → 1 ≤ ((((((((kc - 1) - 1) - 1) - 1) - 1) - 1) - 1) - 1) ∧ 4 ≤ ((((((((ns - ix (nI 16)) - n2) - n3) - n4) - ix (shl (nI 1) (mI M15 l0 0))) - ix (shl (nI 1) (mI M17 l0 0))) - ix (shl (nI 1) (mI M19 l0 0))) - ix (shl (nI 1) (mI M21 l0 0))) ∧ ∀ M24 : Mem, M24 = nw M23 8 4 → ∃ kb1 nb1 : Nat, kb1 ≤ (((((((((kc - 1) - 1) - 1) - 1) - 1) - 1) - 1) - 1) - 1) ∧ nb1 ≤ (((((((((ns - ix (nI 16)) - n2) - n3) - n4) - ix (shl (nI 1) (mI M15 l0 0))) - ix (shl (nI 1) (mI M17 l0 0))) - ix (shl (nI 1) (mI M19 l0 0))) - ix (shl (nI 1) (mI M21 l0 0))) - 4) ∧ Cl X (d - 1) kb1 nb1 m_X8_init [vR (nx M23)] M24 (fun r M25 => r = none ∧ isK M25 l0 3 16 ∧ ∀ M26 : Mem, M26 = sR M25 l0 13 (nx M23) → Cl X (d - 1) 0 0 m_X3_gatherTogether [vR l0] M26 (fun r M27 => r = none ∧ Ext M26 M27 ∧ Cl X (d - 1) 0 0 m_X3_findHanging [vR l0] M27 (fun r M28 => r = none ∧ Ext M27 M28 ∧ Q none M28)))) :
    WA X d kc ns m_X3_init 0 [some (vR l0), some (vR l1)] [] M Q := by
  refine x_aload_n (tk K_X3_init 0 rfl) rfl rfl ?_
  refine x_objInit (tk K_X3_init 1 rfl) oi_X3_3 oi_in oi_code hS (by decide) hd ?_
  refine x_aload_n (tk K_X3_init 2 rfl) rfl rfl ?_
  refine x_bipush (tk K_X3_init 3 rfl) bp_16 ?_
  have hx := h.1
  have hk := h.2.1
  have hn := h.2.2.1
  have h := h.2.2.2
  refine x_newa (k := 14) (tk K_X3_init 4 rfl) rfl ac_14 hx hk hn ?_
  refine WA_nm (fun M1 e_M1 => ?_)
  have h := h M1 e_M1
  have hT1 : isK M1 (nx M) 14 (ix (nI 16)) := by rw [e_M1]; exact isK_nw
  have hT2 : isK M1 l0 3 16 := by rw [e_M1]; exact (isK_nw_old hS)
  refine x_putR (tk K_X3_init 5 rfl) f_X3_9 rfl rfl (Or.inr ⟨rfl, rfl, rfl, l_X3_9⟩) hT2 ?_
  refine WA_nm (fun M2 e_M2 => ?_)
  have h := h M2 e_M2
  have hT3 : isK M2 l0 3 16 := by rw [e_M2]; exact hT2
  refine x_aload_n (tk K_X3_init 6 rfl) rfl rfl ?_
  refine x_iconst (tk K_X3_init 7 rfl) ic_1 ?_
  refine x_putZ (tk K_X3_init 8 rfl) f_X3_15 rfl (Or.inl rfl) hT3 (Or.inr rfl) ?_
  refine WA_nm (fun M3 e_M3 => ?_)
  have h := h M3 e_M3
  have hT4 : isK M3 l0 3 16 := by rw [e_M3]; exact hT3
  refine x_aload_n (tk K_X3_init 9 rfl) rfl rfl ?_
  refine x_iconst (tk K_X3_init 10 rfl) ic_0 ?_
  refine x_putZ (tk K_X3_init 11 rfl) f_X3_19 rfl (Or.inl rfl) hT4 (Or.inl rfl) ?_
  refine WA_nm (fun M4 e_M4 => ?_)
  have h := h M4 e_M4
  have hT5 : isK M4 l0 3 16 := by rw [e_M4]; exact hT4
  refine x_aload_n (tk K_X3_init 12 rfl) rfl rfl ?_
  refine x_aload_n (tk K_X3_init 13 rfl) rfl rfl ?_
  have hO_0 := h.1
  have h := h.2
  refine x_getI (tk K_X3_init 14 rfl) f_X3_22 rfl hO_0 ?_
  refine x_putI (tk K_X3_init 15 rfl) f_X3_28 rfl (Or.inr ⟨rfl, rfl, rfl, l_X3_28⟩) hT5 ?_
  refine WA_nm (fun M5 e_M5 => ?_)
  have h := h M5 e_M5
  have hT6 : isK M5 l0 3 16 := by rw [e_M5]; exact hT5
  have hT7 : isK M5 l1 4 7 := by rw [e_M5]; exact hO_0
  refine x_aload_n (tk K_X3_init 16 rfl) rfl rfl ?_
  refine x_aload_n (tk K_X3_init 17 rfl) rfl rfl ?_
  refine x_getI (tk K_X3_init 18 rfl) f_X3_29 rfl hT7 ?_
  refine x_putI (tk K_X3_init 19 rfl) f_X3_32 rfl (Or.inr ⟨rfl, rfl, rfl, l_X3_32⟩) hT6 ?_
  refine WA_nm (fun M6 e_M6 => ?_)
  have h := h M6 e_M6
  have hT8 : isK M6 l0 3 16 := by rw [e_M6]; exact hT6
  have hT9 : isK M6 l1 4 7 := by rw [e_M6]; exact hT7
  refine x_aload_n (tk K_X3_init 20 rfl) rfl rfl ?_
  refine x_aload_n (tk K_X3_init 21 rfl) rfl rfl ?_
  refine x_getI (tk K_X3_init 22 rfl) f_X3_33 rfl hT9 ?_
  refine x_putI (tk K_X3_init 23 rfl) f_X3_36 rfl (Or.inr ⟨rfl, rfl, rfl, l_X3_36⟩) hT8 ?_
  refine WA_nm (fun M7 e_M7 => ?_)
  have h := h M7 e_M7
  have hT10 : isK M7 l0 3 16 := by rw [e_M7]; exact hT8
  have hT11 : isK M7 l1 4 7 := by rw [e_M7]; exact hT9
  refine x_aload_n (tk K_X3_init 24 rfl) rfl rfl ?_
  refine x_aload_n (tk K_X3_init 25 rfl) rfl rfl ?_
  refine x_getI (tk K_X3_init 26 rfl) f_X3_37 rfl hT11 ?_
  refine x_putI (tk K_X3_init 27 rfl) f_X3_40 rfl (Or.inr ⟨rfl, rfl, rfl, l_X3_40⟩) hT10 ?_
  refine WA_nm (fun M8 e_M8 => ?_)
  have h := h M8 e_M8
  have hT12 : isK M8 l0 3 16 := by rw [e_M8]; exact hT10
  have hT13 : isK M8 l1 4 7 := by rw [e_M8]; exact hT11
  refine x_aload_n (tk K_X3_init 28 rfl) rfl rfl ?_
  refine x_iconst (tk K_X3_init 29 rfl) ic_1 ?_
  refine x_aload_n (tk K_X3_init 30 rfl) rfl rfl ?_
  refine x_getI (tk K_X3_init 31 rfl) f_X3_28 rfl hT12 ?_
  refine x_ishl (tk K_X3_init 32 rfl) ?_
  refine x_iconst (tk K_X3_init 33 rfl) ic_1 ?_
  refine x_isub (tk K_X3_init 34 rfl) ?_
  refine x_putI (tk K_X3_init 35 rfl) f_X3_41 rfl (Or.inr ⟨rfl, rfl, rfl, l_X3_41⟩) hT12 ?_
  refine WA_nm (fun M9 e_M9 => ?_)
  have h := h M9 e_M9
  have hT14 : isK M9 l0 3 16 := by rw [e_M9]; exact hT12
  have hT15 : isK M9 l1 4 7 := by rw [e_M9]; exact hT13
  refine x_aload_n (tk K_X3_init 36 rfl) rfl rfl ?_
  refine x_aload_n (tk K_X3_init 37 rfl) rfl rfl ?_
  refine x_getR (tk K_X3_init 38 rfl) f_X3_44 rfl hT15 ?_
  obtain ⟨n2, hA_n2, h⟩ := h
  have hk := h.1
  have hn := h.2.1
  have h := h.2.2
  refine x_clone (tk K_X3_init 39 rfl) ck_X3_47 clo_1 clo_2 clo_3 clo_4 clo_5 hA_n2 hd (Nat.le_of_ble_eq_true rfl) hk hn ?_
  refine WA_nm (fun M10 e_M10 => ?_)
  have h := h M10 e_M10
  have hT19 : isK M10 (nx M9) 14 n2 := by rw [e_M10]; exact isK_nwc
  have hT20 : isK M10 l0 3 16 := by rw [e_M10]; exact (isK_nwc_old hT14)
  have hT21 : isK M10 l1 4 7 := by rw [e_M10]; exact (isK_nwc_old hT15)
  refine x_castI (tk K_X3_init 40 rfl) cl_X3_48 hT19 ?_
  refine x_putR (tk K_X3_init 41 rfl) f_X3_52 rfl rfl (Or.inr ⟨rfl, rfl, rfl, l_X3_52⟩) hT20 ?_
  refine WA_nm (fun M11 e_M11 => ?_)
  have h := h M11 e_M11
  have hT22 : isK M11 l0 3 16 := by rw [e_M11]; exact hT20
  have hT23 : isK M11 l1 4 7 := by rw [e_M11]; exact hT21
  refine x_aload_n (tk K_X3_init 42 rfl) rfl rfl ?_
  refine x_aload_n (tk K_X3_init 43 rfl) rfl rfl ?_
  refine x_getR (tk K_X3_init 44 rfl) f_X3_53 rfl hT23 ?_
  obtain ⟨n3, hA_n3, h⟩ := h
  have hk := h.1
  have hn := h.2.1
  have h := h.2.2
  refine x_clone (tk K_X3_init 45 rfl) ck_X3_47 clo_1 clo_2 clo_3 clo_4 clo_5 hA_n3 hd (Nat.le_of_ble_eq_true rfl) hk hn ?_
  refine WA_nm (fun M12 e_M12 => ?_)
  have h := h M12 e_M12
  have hT27 : isK M12 (nx M11) 14 n3 := by rw [e_M12]; exact isK_nwc
  have hT28 : isK M12 l0 3 16 := by rw [e_M12]; exact (isK_nwc_old hT22)
  have hT29 : isK M12 l1 4 7 := by rw [e_M12]; exact (isK_nwc_old hT23)
  refine x_castI (tk K_X3_init 46 rfl) cl_X3_48 hT27 ?_
  refine x_putR (tk K_X3_init 47 rfl) f_X3_56 rfl rfl (Or.inr ⟨rfl, rfl, rfl, l_X3_56⟩) hT28 ?_
  refine WA_nm (fun M13 e_M13 => ?_)
  have h := h M13 e_M13
  have hT30 : isK M13 l0 3 16 := by rw [e_M13]; exact hT28
  have hT31 : isK M13 l1 4 7 := by rw [e_M13]; exact hT29
  refine x_aload_n (tk K_X3_init 48 rfl) rfl rfl ?_
  refine x_aload_n (tk K_X3_init 49 rfl) rfl rfl ?_
  refine x_getR (tk K_X3_init 50 rfl) f_X3_57 rfl hT31 ?_
  obtain ⟨n4, hA_n4, h⟩ := h
  have hk := h.1
  have hn := h.2.1
  have h := h.2.2
  refine x_clone (tk K_X3_init 51 rfl) ck_X3_47 clo_1 clo_2 clo_3 clo_4 clo_5 hA_n4 hd (Nat.le_of_ble_eq_true rfl) hk hn ?_
  refine WA_nm (fun M14 e_M14 => ?_)
  have h := h M14 e_M14
  have hT35 : isK M14 (nx M13) 14 n4 := by rw [e_M14]; exact isK_nwc
  have hT36 : isK M14 l0 3 16 := by rw [e_M14]; exact (isK_nwc_old hT30)
  have hT37 : isK M14 l1 4 7 := by rw [e_M14]; exact (isK_nwc_old hT31)
  refine x_castI (tk K_X3_init 52 rfl) cl_X3_48 hT35 ?_
  refine x_putR (tk K_X3_init 53 rfl) f_X3_60 rfl rfl (Or.inr ⟨rfl, rfl, rfl, l_X3_60⟩) hT36 ?_
  refine WA_nm (fun M15 e_M15 => ?_)
  have h := h M15 e_M15
  have hT38 : isK M15 l0 3 16 := by rw [e_M15]; exact hT36
  have hT39 : isK M15 l1 4 7 := by rw [e_M15]; exact hT37
  refine x_aload_n (tk K_X3_init 54 rfl) rfl rfl ?_
  refine x_iconst (tk K_X3_init 55 rfl) ic_1 ?_
  refine x_aload_n (tk K_X3_init 56 rfl) rfl rfl ?_
  refine x_getI (tk K_X3_init 57 rfl) f_X3_28 rfl hT38 ?_
  refine x_ishl (tk K_X3_init 58 rfl) ?_
  have hx := h.1
  have hk := h.2.1
  have hn := h.2.2.1
  have h := h.2.2.2
  refine x_newa (k := 14) (tk K_X3_init 59 rfl) rfl ac_14 hx hk hn ?_
  refine WA_nm (fun M16 e_M16 => ?_)
  have h := h M16 e_M16
  have hT42 : isK M16 (nx M15) 14 (ix (shl (nI 1) (mI M15 l0 0))) := by rw [e_M16]; exact isK_nw
  have hT43 : isK M16 l0 3 16 := by rw [e_M16]; exact (isK_nw_old hT38)
  have hT44 : isK M16 l1 4 7 := by rw [e_M16]; exact (isK_nw_old hT39)
  refine x_putR (tk K_X3_init 60 rfl) f_X3_61 rfl rfl (Or.inr ⟨rfl, rfl, rfl, l_X3_61⟩) hT43 ?_
  refine WA_nm (fun M17 e_M17 => ?_)
  have h := h M17 e_M17
  have hT45 : isK M17 l0 3 16 := by rw [e_M17]; exact hT43
  have hT46 : isK M17 l1 4 7 := by rw [e_M17]; exact hT44
  refine x_aload_n (tk K_X3_init 61 rfl) rfl rfl ?_
  refine x_iconst (tk K_X3_init 62 rfl) ic_1 ?_
  refine x_aload_n (tk K_X3_init 63 rfl) rfl rfl ?_
  refine x_getI (tk K_X3_init 64 rfl) f_X3_28 rfl hT45 ?_
  refine x_ishl (tk K_X3_init 65 rfl) ?_
  have hx := h.1
  have hk := h.2.1
  have hn := h.2.2.1
  have h := h.2.2.2
  refine x_newa (k := 12) (tk K_X3_init 66 rfl) rfl ac_12 hx hk hn ?_
  refine WA_nm (fun M18 e_M18 => ?_)
  have h := h M18 e_M18
  have hT49 : isK M18 (nx M17) 12 (ix (shl (nI 1) (mI M17 l0 0))) := by rw [e_M18]; exact isK_nw
  have hT50 : isK M18 l0 3 16 := by rw [e_M18]; exact (isK_nw_old hT45)
  have hT51 : isK M18 l1 4 7 := by rw [e_M18]; exact (isK_nw_old hT46)
  refine x_putR (tk K_X3_init 67 rfl) f_X3_64 rfl rfl (Or.inr ⟨rfl, rfl, rfl, l_X3_64⟩) hT50 ?_
  refine WA_nm (fun M19 e_M19 => ?_)
  have h := h M19 e_M19
  have hT52 : isK M19 l0 3 16 := by rw [e_M19]; exact hT50
  have hT53 : isK M19 l1 4 7 := by rw [e_M19]; exact hT51
  refine x_aload_n (tk K_X3_init 68 rfl) rfl rfl ?_
  refine x_iconst (tk K_X3_init 69 rfl) ic_1 ?_
  refine x_aload_n (tk K_X3_init 70 rfl) rfl rfl ?_
  refine x_getI (tk K_X3_init 71 rfl) f_X3_28 rfl hT52 ?_
  refine x_ishl (tk K_X3_init 72 rfl) ?_
  have hx := h.1
  have hk := h.2.1
  have hn := h.2.2.1
  have h := h.2.2.2
  refine x_newa (k := 14) (tk K_X3_init 73 rfl) rfl ac_14 hx hk hn ?_
  refine WA_nm (fun M20 e_M20 => ?_)
  have h := h M20 e_M20
  have hT56 : isK M20 (nx M19) 14 (ix (shl (nI 1) (mI M19 l0 0))) := by rw [e_M20]; exact isK_nw
  have hT57 : isK M20 l0 3 16 := by rw [e_M20]; exact (isK_nw_old hT52)
  have hT58 : isK M20 l1 4 7 := by rw [e_M20]; exact (isK_nw_old hT53)
  refine x_putR (tk K_X3_init 74 rfl) f_X3_68 rfl rfl (Or.inr ⟨rfl, rfl, rfl, l_X3_68⟩) hT57 ?_
  refine WA_nm (fun M21 e_M21 => ?_)
  have h := h M21 e_M21
  have hT59 : isK M21 l0 3 16 := by rw [e_M21]; exact hT57
  have hT60 : isK M21 l1 4 7 := by rw [e_M21]; exact hT58
  refine x_aload_n (tk K_X3_init 75 rfl) rfl rfl ?_
  refine x_iconst (tk K_X3_init 76 rfl) ic_1 ?_
  refine x_aload_n (tk K_X3_init 77 rfl) rfl rfl ?_
  refine x_getI (tk K_X3_init 78 rfl) f_X3_28 rfl hT59 ?_
  refine x_ishl (tk K_X3_init 79 rfl) ?_
  have hx := h.1
  have hk := h.2.1
  have hn := h.2.2.1
  have h := h.2.2.2
  refine x_newa (k := 14) (tk K_X3_init 80 rfl) rfl ac_14 hx hk hn ?_
  refine WA_nm (fun M22 e_M22 => ?_)
  have h := h M22 e_M22
  have hT63 : isK M22 (nx M21) 14 (ix (shl (nI 1) (mI M21 l0 0))) := by rw [e_M22]; exact isK_nw
  have hT64 : isK M22 l0 3 16 := by rw [e_M22]; exact (isK_nw_old hT59)
  have hT65 : isK M22 l1 4 7 := by rw [e_M22]; exact (isK_nw_old hT60)
  refine x_putR (tk K_X3_init 81 rfl) f_X3_71 rfl rfl (Or.inr ⟨rfl, rfl, rfl, l_X3_71⟩) hT64 ?_
  refine WA_nm (fun M23 e_M23 => ?_)
  have h := h M23 e_M23
  have hT66 : isK M23 l0 3 16 := by rw [e_M23]; exact hT64
  have hT67 : isK M23 l1 4 7 := by rw [e_M23]; exact hT65
  refine x_aload_n (tk K_X3_init 82 rfl) rfl rfl ?_
  have hk := h.1
  have hn := h.2.1
  have h := h.2.2
  refine x_new (ci := 8) (N := 4) (tk K_X3_init 83 rfl) (by decide) rfl cl_X3_74 in_8 ii_8 hk hn ?_
  refine WA_nm (fun M24 e_M24 => ?_)
  have h := h M24 e_M24
  have hT70 : isK M24 l0 3 16 := by rw [e_M24]; exact (isK_nw_old hT66)
  have hT71 : isK M24 l1 4 7 := by rw [e_M24]; exact (isK_nw_old hT67)
  have hT72 : isK M24 (nx M23) 8 4 := by rw [e_M24]; exact isK_nw
  refine x_dup (tk K_X3_init 84 rfl) rfl ?_
  obtain ⟨kb1, nb1, hk1, hn1, h⟩ := h
  refine x_callI (As := []) (S := [vR _, vR _]) (tk K_X3_init 85 rfl) mk_X3_76 mo_X8_init hT72 rfl rfl (Nat.le_of_ble_eq_true rfl) hd hk1 hn1 h (fun r M25 hq => ?_)
  obtain ⟨rfl, h⟩ := hq
  have hO_4 := h.1
  have h := h.2
  refine x_putR (tk K_X3_init 86 rfl) f_X3_77 rfl rfl (Or.inr ⟨rfl, rfl, rfl, l_X3_77⟩) hO_4 ?_
  refine WA_nm (fun M26 e_M26 => ?_)
  have h := h M26 e_M26
  have hT73 : isK M26 l0 3 16 := by rw [e_M26]; exact hO_4
  refine x_aload_n (tk K_X3_init 87 rfl) rfl rfl ?_
  refine x_callV0 (As := []) (S := []) (tk K_X3_init 88 rfl) mk_X3_81 mo_X3_gatherTogether hT73 rfl rfl (Nat.le_of_ble_eq_true rfl) hd h (fun r M27 hq => ?_)
  obtain ⟨rfl, hE, h⟩ := hq
  have hT74 := hE.1 _ _ _ hT73
  refine x_aload_n (tk K_X3_init 89 rfl) rfl rfl ?_
  refine x_callV0 (As := []) (S := []) (tk K_X3_init 90 rfl) mk_X3_84 mo_X3_findHanging hT74 rfl rfl (Nat.le_of_ble_eq_true rfl) hd h (fun r M28 hq => ?_)
  obtain ⟨rfl, hE, h⟩ := hq
  have hT75 := hE.1 _ _ _ hT74
  exact x_return (tk K_X3_init 91 rfl) rfl h

theorem e_X3_init {X : Cx} {d kc ns : Nat} {M : Mem} {Q : Option AV → Mem → Prop} {a0 : Nat} {a1 : Nat} (h : WA X d kc ns m_X3_init 0 [some (vR a0), some (vR a1)] [] M Q) : Cl X d kc ns m_X3_init [vR a0, vR a1] M Q := Cl.intro (k := 0) (by decide) rfl rfl h

-- TwoPencils$Land.gatherTogether()V
theorem b_X3_gatherTogether_0 {X : Cx} {d kc ns : Nat} {M : Mem} {Q : Option AV → Mem → Prop} {l0 : Nat} (hS : LaS M l0)
    (h : WA X d kc ns m_X3_gatherTogether 2 [some (vR l0), some (vI (nI 0)), none] [] M Q) :
    WA X d kc ns m_X3_gatherTogether 0 [some (vR l0), none, none] [] M Q := by
  refine x_iconst (tk K_X3_gatherTogether 0 rfl) ic_0 ?_
  refine x_istore_n (L' := [some (vR _), some (vI _), none]) (tk K_X3_gatherTogether 1 rfl) rfl rfl (Nat.le_of_ble_eq_true rfl) rfl ?_
  exact h

theorem b_X3_gatherTogether_2 {X : Cx} {d kc ns : Nat} {M : Mem} {Q : Option AV → Mem → Prop} {l0 : Nat} {l1 : Int32} (hS : LaS M l0)
    (h : (((mI M l0 0) ≤ l1 → Q none M) ∧ (¬ (mI M l0 0) ≤ l1 → WA X d kc ns m_X3_gatherTogether 12 [some (vR l0), some (vI l1), some (vI (nI 0))] [] M Q))) :
    WA X d kc ns m_X3_gatherTogether 2 [some (vR l0), some (vI l1), none] [] M Q := by
  refine x_iload_n (tk K_X3_gatherTogether 2 rfl) rfl rfl ?_
  refine x_aload_n (tk K_X3_gatherTogether 3 rfl) rfl rfl ?_
  refine x_getI (tk K_X3_gatherTogether 4 rfl) f_X3_28 rfl (LaS.o hS) ?_
  refine x_icmp_ge (t := 60) (tk K_X3_gatherTogether 5 rfl) rfl (fun hc => ?_) (fun hc => ?_)
  · have h := h.1 hc
    exact x_return (tk K_X3_gatherTogether 36 rfl) rfl h
  · have h := h.2 hc
    refine x_iconst (tk K_X3_gatherTogether 6 rfl) ic_0 ?_
    refine x_istore_n (L' := [some (vR _), some (vI _), some (vI _)]) (tk K_X3_gatherTogether 7 rfl) rfl rfl (Nat.le_of_ble_eq_true rfl) rfl ?_
    exact h

theorem b_X3_gatherTogether_12 {X : Cx} {d kc ns : Nat} {M : Mem} {Q : Option AV → Mem → Prop} {l0 : Nat} {l1 : Int32} {l2 : Int32} (hS : LaS M l0)
    (h : (((mI M l0 0) ≤ l2 → WA X d kc ns m_X3_gatherTogether 2 [some (vR l0), some (vI (l1 + (nI 1))), none] [] M Q) ∧ (¬ (mI M l0 0) ≤ l2 → vp_in l2 9 ∧ ((((shr (mI M (l0 + 4) (ix l2)) l1) &&& (nI 1)) = nI 0 → WA X d kc ns m_X3_gatherTogether 12 [some (vR l0), some (vI l1), some (vI (l2 + (nI 1)))] [] M Q) ∧ (¬ ((shr (mI M (l0 + 4) (ix l2)) l1) &&& (nI 1)) = nI 0 → vp_in l2 9 ∧ vp_in l1 9 ∧ vp_in l2 9 ∧ ∀ M1 : Mem, M1 = sI M (l0 + 4) (ix l2) ((mI M (l0 + 4) (ix l2)) ||| (mI M (l0 + 4) (ix l1))) → WA X d kc ns m_X3_gatherTogether 12 [some (vR l0), some (vI l1), some (vI (l2 + (nI 1)))] [] M1 Q))))) :
    WA X d kc ns m_X3_gatherTogether 12 [some (vR l0), some (vI l1), some (vI l2)] [] M Q := by
  refine x_iload_n (tk K_X3_gatherTogether 8 rfl) rfl rfl ?_
  refine x_aload_n (tk K_X3_gatherTogether 9 rfl) rfl rfl ?_
  refine x_getI (tk K_X3_gatherTogether 10 rfl) f_X3_28 rfl (LaS.o hS) ?_
  refine x_icmp_ge (t := 54) (tk K_X3_gatherTogether 11 rfl) rfl (fun hc => ?_) (fun hc => ?_)
  · have h := h.1 hc
    refine x_iincW (L' := [some (vR _), some (vI _), some (vI _)]) (tk K_X3_gatherTogether 34 rfl) rfl ic_1 rfl (Nat.le_of_ble_eq_true rfl) rfl ?_
    refine x_goto (t := 2) (tk K_X3_gatherTogether 35 rfl) rfl ?_
    refine x_msk [true, true, false] ?_
    exact h
  · have h := h.2 hc
    refine x_aload_n (tk K_X3_gatherTogether 12 rfl) rfl rfl ?_
    refine x_getRc (tk K_X3_gatherTogether 13 rfl) f_X3_60 rfl (LaS.o hS) (LaS.r7 hS) ?_
    refine x_iload_n (tk K_X3_gatherTogether 14 rfl) rfl rfl ?_
    have hi := h.1
    have h := h.2
    refine x_iald (tk K_X3_gatherTogether 15 rfl) (LaS.k7 hS) hi ?_
    refine x_iload_n (tk K_X3_gatherTogether 16 rfl) rfl rfl ?_
    refine x_ishr (tk K_X3_gatherTogether 17 rfl) ?_
    refine x_iconst (tk K_X3_gatherTogether 18 rfl) ic_1 ?_
    refine x_iand (tk K_X3_gatherTogether 19 rfl) ?_
    refine x_if_eq (t := 48) (tk K_X3_gatherTogether 20 rfl) rfl (fun hc => ?_) (fun hc => ?_)
    · have h := h.1 hc
      refine x_iincW (L' := [some (vR _), some (vI _), some (vI _)]) (tk K_X3_gatherTogether 32 rfl) rfl ic_1 rfl (Nat.le_of_ble_eq_true rfl) rfl ?_
      refine x_goto (t := 12) (tk K_X3_gatherTogether 33 rfl) rfl ?_
      exact h
    · have h := h.2 hc
      refine x_aload_n (tk K_X3_gatherTogether 21 rfl) rfl rfl ?_
      refine x_getRc (tk K_X3_gatherTogether 22 rfl) f_X3_60 rfl (LaS.o hS) (LaS.r7 hS) ?_
      refine x_iload_n (tk K_X3_gatherTogether 23 rfl) rfl rfl ?_
      refine x_dup2 (tk K_X3_gatherTogether 24 rfl) rfl rfl ?_
      have hi := h.1
      have h := h.2
      refine x_iald (tk K_X3_gatherTogether 25 rfl) (LaS.k7 hS) hi ?_
      refine x_aload_n (tk K_X3_gatherTogether 26 rfl) rfl rfl ?_
      refine x_getRc (tk K_X3_gatherTogether 27 rfl) f_X3_60 rfl (LaS.o hS) (LaS.r7 hS) ?_
      refine x_iload_n (tk K_X3_gatherTogether 28 rfl) rfl rfl ?_
      have hi := h.1
      have h := h.2
      refine x_iald (tk K_X3_gatherTogether 29 rfl) (LaS.k7 hS) hi ?_
      refine x_ior (tk K_X3_gatherTogether 30 rfl) ?_
      have hi := h.1
      have h := h.2
      have h := h _ rfl
      refine x_iast (tk K_X3_gatherTogether 31 rfl) (LaS.k7 hS) hi ?_
      refine x_iincW (L' := [some (vR _), some (vI _), some (vI _)]) (tk K_X3_gatherTogether 32 rfl) rfl ic_1 rfl (Nat.le_of_ble_eq_true rfl) rfl ?_
      refine x_goto (t := 12) (tk K_X3_gatherTogether 33 rfl) rfl ?_
      exact h

theorem e_X3_gatherTogether {X : Cx} {d kc ns : Nat} {M : Mem} {Q : Option AV → Mem → Prop} {a0 : Nat} (h : WA X d kc ns m_X3_gatherTogether 0 [some (vR a0), none, none] [] M Q) : Cl X d kc ns m_X3_gatherTogether [vR a0] M Q := Cl.intro (k := 2) (by decide) rfl rfl h

-- TwoPencils$Land.findHanging()V
theorem b_X3_findHanging_0 {X : Cx} {d kc ns : Nat} {M : Mem} {Q : Option AV → Mem → Prop} {l0 : Nat} (hS : LaS M l0)
    (h : WA X d kc ns m_X3_findHanging 2 [some (vR l0), some (vI (nI 1)), none, none, none] [] M Q) :
    WA X d kc ns m_X3_findHanging 0 [some (vR l0), none, none, none, none] [] M Q := by
  refine x_iconst (tk K_X3_findHanging 0 rfl) ic_1 ?_
  refine x_istore_n (L' := [some (vR _), some (vI _), none, none, none]) (tk K_X3_findHanging 1 rfl) rfl rfl (Nat.le_of_ble_eq_true rfl) rfl ?_
  exact h

theorem b_X3_findHanging_2 {X : Cx} {d kc ns : Nat} {M : Mem} {Q : Option AV → Mem → Prop} {l0 : Nat} {l1 : Int32} (hS : LaS M l0) (hd : 1 ≤ d)
    (h : (((mI M l0 4) < l1 → Cl X (d - 1) 0 0 m_X3_lookAhead [vR l0, vR (l0 + 7)] M (fun r M1 => r = none ∧ Ext M M1 ∧ Q none M1)) ∧ (¬ (mI M l0 4) < l1 → ((¬ (l1 &&& (l1 - (nI 1))) = nI 0 → WA X d kc ns m_X3_findHanging 26 [some (vR l0), some (vI l1), some (vI (nI 0)), some (vI (nI 0)), none] [] M Q) ∧ ((l1 &&& (l1 - (nI 1))) = nI 0 → WA X d kc ns m_X3_findHanging 26 [some (vR l0), some (vI l1), some (vI (nI 1)), some (vI (nI 0)), none] [] M Q))))) :
    WA X d kc ns m_X3_findHanging 2 [some (vR l0), some (vI l1), none, none, none] [] M Q := by
  refine x_iload_n (tk K_X3_findHanging 2 rfl) rfl rfl ?_
  refine x_aload_n (tk K_X3_findHanging 3 rfl) rfl rfl ?_
  refine x_getI (tk K_X3_findHanging 4 rfl) f_X3_41 rfl (LaS.o hS) ?_
  refine x_icmp_gt (t := 112) (tk K_X3_findHanging 5 rfl) rfl (fun hc => ?_) (fun hc => ?_)
  · have h := h.1 hc
    refine x_aload_n (tk K_X3_findHanging 66 rfl) rfl rfl ?_
    refine x_aload_n (tk K_X3_findHanging 67 rfl) rfl rfl ?_
    refine x_getRc (tk K_X3_findHanging 68 rfl) f_X3_68 rfl (LaS.o hS) (LaS.r10 hS) ?_
    refine x_callV0 (As := [vR _]) (S := []) (tk K_X3_findHanging 69 rfl) mk_X3_91 mo_X3_lookAhead (LaS.o hS) rfl rfl (Nat.le_of_ble_eq_true rfl) hd h (fun r M1 hq => ?_)
    obtain ⟨rfl, hE, h⟩ := hq
    have hT0 := LaS.ext hS hE
    have hT1 := hE.1 _ _ _ (LaS.k10 hS)
    exact x_return (tk K_X3_findHanging 70 rfl) rfl h
  · have h := h.2 hc
    refine x_iload_n (tk K_X3_findHanging 6 rfl) rfl rfl ?_
    refine x_iload_n (tk K_X3_findHanging 7 rfl) rfl rfl ?_
    refine x_iconst (tk K_X3_findHanging 8 rfl) ic_1 ?_
    refine x_isub (tk K_X3_findHanging 9 rfl) ?_
    refine x_iand (tk K_X3_findHanging 10 rfl) ?_
    refine x_if_ne (t := 22) (tk K_X3_findHanging 11 rfl) rfl (fun hc => ?_) (fun hc => ?_)
    · have h := h.1 hc
      refine x_iconst (tk K_X3_findHanging 14 rfl) ic_0 ?_
      refine x_istore_n (L' := [some (vR _), some (vI _), some (vI _), none, none]) (tk K_X3_findHanging 15 rfl) rfl rfl (Nat.le_of_ble_eq_true rfl) rfl ?_
      refine x_iconst (tk K_X3_findHanging 16 rfl) ic_0 ?_
      refine x_istore_n (L' := [some (vR _), some (vI _), some (vI _), some (vI _), none]) (tk K_X3_findHanging 17 rfl) rfl rfl (Nat.le_of_ble_eq_true rfl) rfl ?_
      exact h
    · have h := h.2 hc
      refine x_iconst (tk K_X3_findHanging 12 rfl) ic_1 ?_
      refine x_goto (t := 23) (tk K_X3_findHanging 13 rfl) rfl ?_
      refine x_istore_n (L' := [some (vR _), some (vI _), some (vI _), none, none]) (tk K_X3_findHanging 15 rfl) rfl rfl (Nat.le_of_ble_eq_true rfl) rfl ?_
      refine x_iconst (tk K_X3_findHanging 16 rfl) ic_0 ?_
      refine x_istore_n (L' := [some (vR _), some (vI _), some (vI _), some (vI _), none]) (tk K_X3_findHanging 17 rfl) rfl rfl (Nat.le_of_ble_eq_true rfl) rfl ?_
      exact h

theorem b_X3_findHanging_26 {X : Cx} {d kc ns : Nat} {M : Mem} {Q : Option AV → Mem → Prop} {l0 : Nat} {l1 : Int32} {l2 : Int32} {l3 : Int32} (hS : LaS M l0) (hd : 1 ≤ d)
    (h : (((mI M l0 0) ≤ l3 → WA X d kc ns m_X3_findHanging 86 [some (vR l0), some (vI l1), some (vI l2), none, none] [] M Q) ∧ (¬ (mI M l0 0) ≤ l3 → ((¬ l2 = nI 0 → WA X d kc ns m_X3_findHanging 86 [some (vR l0), some (vI l1), some (vI l2), none, none] [] M Q) ∧ (l2 = nI 0 → ∀ x1 : Int32, x1 = (l1 &&& ((shl (nI 1) l3) ^^^ (-1))) → ((x1 = l1 → WA X d kc ns m_X3_findHanging 26 [some (vR l0), some (vI l1), some (vI (nI 0)), some (vI (l3 + (nI 1))), none] [] M Q) ∧ (¬ x1 = l1 → vp_in l3 9 ∧ ((((mI M (l0 + 3) (ix l3)) &&& x1) = nI 0 → WA X d kc ns m_X3_findHanging 26 [some (vR l0), some (vI l1), some (vI (nI 0)), some (vI (l3 + (nI 1))), none] [] M Q) ∧ (¬ ((mI M (l0 + 3) (ix l3)) &&& x1) = nI 0 → Cl X (d - 1) 0 0 m_X3_isHanging [vR l0, vI x1] M (fun r M1 => ∃ x2 : Int32, r = some (vI x2) ∧ Ext M M1 ∧ ((x2 = nI 0 → WA X d kc ns m_X3_findHanging 26 [some (vR l0), some (vI l1), some (vI (nI 0)), some (vI (l3 + (nI 1))), none] [] M1 Q) ∧ (¬ x2 = nI 0 → WA X d kc ns m_X3_findHanging 26 [some (vR l0), some (vI l1), some (vI (nI 1)), some (vI (l3 + (nI 1))), none] [] M1 Q)))))))))))) :
    WA X d kc ns m_X3_findHanging 26 [some (vR l0), some (vI l1), some (vI l2), some (vI l3), none] [] M Q := by
  refine x_iload_n (tk K_X3_findHanging 18 rfl) rfl rfl ?_
  refine x_aload_n (tk K_X3_findHanging 19 rfl) rfl rfl ?_
  refine x_getI (tk K_X3_findHanging 20 rfl) f_X3_28 rfl (LaS.o hS) ?_
  refine x_icmp_ge (t := 86) (tk K_X3_findHanging 21 rfl) rfl (fun hc => ?_) (fun hc => ?_)
  · have h := h.1 hc
    refine x_msk [true, true, true, false, false] ?_
    exact h
  · have h := h.2 hc
    refine x_iload_n (tk K_X3_findHanging 22 rfl) rfl rfl ?_
    refine x_if_ne (t := 86) (tk K_X3_findHanging 23 rfl) rfl (fun hc => ?_) (fun hc => ?_)
    · have h := h.1 hc
      refine x_msk [true, true, true, false, false] ?_
      exact h
    · have h := h.2 hc
      refine x_iload_n (tk K_X3_findHanging 24 rfl) rfl rfl ?_
      refine x_iconst (tk K_X3_findHanging 25 rfl) ic_1 ?_
      refine x_iload_n (tk K_X3_findHanging 26 rfl) rfl rfl ?_
      refine x_ishl (tk K_X3_findHanging 27 rfl) ?_
      refine x_iconst (tk K_X3_findHanging 28 rfl) ic_m1 ?_
      refine x_ixor (tk K_X3_findHanging 29 rfl) ?_
      refine x_iand (tk K_X3_findHanging 30 rfl) ?_
      have h := h _ rfl
      refine x_istore (L' := [some (vR _), some (vI _), some (vI _), some (vI _), some (vI _)]) (tk K_X3_findHanging 31 rfl) rfl (Nat.le_of_ble_eq_true rfl) rfl ?_
      refine x_iload (tk K_X3_findHanging 32 rfl) rfl ?_
      refine x_iload_n (tk K_X3_findHanging 33 rfl) rfl rfl ?_
      refine x_icmp_eq (t := 78) (tk K_X3_findHanging 34 rfl) rfl (fun hc => ?_) (fun hc => ?_)
      · have h := h.1 hc
        refine x_iconst (tk K_X3_findHanging 48 rfl) ic_0 ?_
        refine x_istore_n (L' := [some (vR _), some (vI _), some (vI _), some (vI _), some (vI _)]) (tk K_X3_findHanging 49 rfl) rfl rfl (Nat.le_of_ble_eq_true rfl) rfl ?_
        refine x_iincW (L' := [some (vR _), some (vI _), some (vI _), some (vI _), some (vI _)]) (tk K_X3_findHanging 50 rfl) rfl ic_1 rfl (Nat.le_of_ble_eq_true rfl) rfl ?_
        refine x_goto (t := 26) (tk K_X3_findHanging 51 rfl) rfl ?_
        refine x_msk [true, true, true, true, false] ?_
        exact h
      · have h := h.2 hc
        refine x_aload_n (tk K_X3_findHanging 35 rfl) rfl rfl ?_
        refine x_getRc (tk K_X3_findHanging 36 rfl) f_X3_56 rfl (LaS.o hS) (LaS.r6 hS) ?_
        refine x_iload_n (tk K_X3_findHanging 37 rfl) rfl rfl ?_
        have hi := h.1
        have h := h.2
        refine x_iald (tk K_X3_findHanging 38 rfl) (LaS.k6 hS) hi ?_
        refine x_iload (tk K_X3_findHanging 39 rfl) rfl ?_
        refine x_iand (tk K_X3_findHanging 40 rfl) ?_
        refine x_if_eq (t := 78) (tk K_X3_findHanging 41 rfl) rfl (fun hc => ?_) (fun hc => ?_)
        · have h := h.1 hc
          refine x_iconst (tk K_X3_findHanging 48 rfl) ic_0 ?_
          refine x_istore_n (L' := [some (vR _), some (vI _), some (vI _), some (vI _), some (vI _)]) (tk K_X3_findHanging 49 rfl) rfl rfl (Nat.le_of_ble_eq_true rfl) rfl ?_
          refine x_iincW (L' := [some (vR _), some (vI _), some (vI _), some (vI _), some (vI _)]) (tk K_X3_findHanging 50 rfl) rfl ic_1 rfl (Nat.le_of_ble_eq_true rfl) rfl ?_
          refine x_goto (t := 26) (tk K_X3_findHanging 51 rfl) rfl ?_
          refine x_msk [true, true, true, true, false] ?_
          exact h
        · have h := h.2 hc
          refine x_aload_n (tk K_X3_findHanging 42 rfl) rfl rfl ?_
          refine x_iload (tk K_X3_findHanging 43 rfl) rfl ?_
          refine x_callV0 (As := [vI _]) (S := []) (tk K_X3_findHanging 44 rfl) mk_X3_87 mo_X3_isHanging (LaS.o hS) rfl rfl (Nat.le_of_ble_eq_true rfl) hd h (fun r M1 hq => ?_)
          obtain ⟨x2, rfl, hE, h⟩ := hq
          have hT0 := LaS.ext hS hE
          have hT1 := hE.1 _ _ _ (LaS.k6 hS)
          refine x_if_eq (t := 78) (tk K_X3_findHanging 45 rfl) rfl (fun hc => ?_) (fun hc => ?_)
          · have h := h.1 hc
            refine x_iconst (tk K_X3_findHanging 48 rfl) ic_0 ?_
            refine x_istore_n (L' := [some (vR _), some (vI _), some (vI _), some (vI _), some (vI _)]) (tk K_X3_findHanging 49 rfl) rfl rfl (Nat.le_of_ble_eq_true rfl) rfl ?_
            refine x_iincW (L' := [some (vR _), some (vI _), some (vI _), some (vI _), some (vI _)]) (tk K_X3_findHanging 50 rfl) rfl ic_1 rfl (Nat.le_of_ble_eq_true rfl) rfl ?_
            refine x_goto (t := 26) (tk K_X3_findHanging 51 rfl) rfl ?_
            refine x_msk [true, true, true, true, false] ?_
            exact h
          · have h := h.2 hc
            refine x_iconst (tk K_X3_findHanging 46 rfl) ic_1 ?_
            refine x_goto (t := 79) (tk K_X3_findHanging 47 rfl) rfl ?_
            refine x_istore_n (L' := [some (vR _), some (vI _), some (vI _), some (vI _), some (vI _)]) (tk K_X3_findHanging 49 rfl) rfl rfl (Nat.le_of_ble_eq_true rfl) rfl ?_
            refine x_iincW (L' := [some (vR _), some (vI _), some (vI _), some (vI _), some (vI _)]) (tk K_X3_findHanging 50 rfl) rfl ic_1 rfl (Nat.le_of_ble_eq_true rfl) rfl ?_
            refine x_goto (t := 26) (tk K_X3_findHanging 51 rfl) rfl ?_
            refine x_msk [true, true, true, true, false] ?_
            exact h

theorem b_X3_findHanging_86 {X : Cx} {d kc ns : Nat} {M : Mem} {Q : Option AV → Mem → Prop} {l0 : Nat} {l1 : Int32} {l2 : Int32} (hS : LaS M l0)
    (h : ((l2 = nI 0 → WA X d kc ns m_X3_findHanging 105 [some (vR l0), some (vI l1), none, none, none] [vI (nI 0), vI l1, vR (l0 + 7)] M Q) ∧ (¬ l2 = nI 0 → WA X d kc ns m_X3_findHanging 105 [some (vR l0), some (vI l1), none, none, none] [vI (shl (nI 1) (mI M l0 0)), vI l1, vR (l0 + 7)] M Q))) :
    WA X d kc ns m_X3_findHanging 86 [some (vR l0), some (vI l1), some (vI l2), none, none] [] M Q := by
  refine x_aload_n (tk K_X3_findHanging 52 rfl) rfl rfl ?_
  refine x_getRc (tk K_X3_findHanging 53 rfl) f_X3_68 rfl (LaS.o hS) (LaS.r10 hS) ?_
  refine x_iload_n (tk K_X3_findHanging 54 rfl) rfl rfl ?_
  refine x_iload_n (tk K_X3_findHanging 55 rfl) rfl rfl ?_
  refine x_if_eq (t := 104) (tk K_X3_findHanging 56 rfl) rfl (fun hc => ?_) (fun hc => ?_)
  · have h := h.1 hc
    refine x_iconst (tk K_X3_findHanging 62 rfl) ic_0 ?_
    refine x_msk [true, true, false, false, false] ?_
    exact h
  · have h := h.2 hc
    refine x_iconst (tk K_X3_findHanging 57 rfl) ic_1 ?_
    refine x_aload_n (tk K_X3_findHanging 58 rfl) rfl rfl ?_
    refine x_getI (tk K_X3_findHanging 59 rfl) f_X3_28 rfl (LaS.o hS) ?_
    refine x_ishl (tk K_X3_findHanging 60 rfl) ?_
    refine x_goto (t := 105) (tk K_X3_findHanging 61 rfl) rfl ?_
    refine x_msk [true, true, false, false, false] ?_
    exact h

theorem b_X3_findHanging_105 {X : Cx} {d kc ns : Nat} {M : Mem} {Q : Option AV → Mem → Prop} {l0 : Nat} {l1 : Int32} {s0 : Nat} {s1 : Int32} {s2 : Int32} (hS : LaS M l0)
    (h : ∃ n1 : Nat, isK M s0 14 n1 ∧ vp_in s1 n1 ∧ ∀ M1 : Mem, M1 = sI M s0 (ix s1) s2 → WA X d kc ns m_X3_findHanging 2 [some (vR l0), some (vI (l1 + (nI 1))), none, none, none] [] M1 Q) :
    WA X d kc ns m_X3_findHanging 105 [some (vR l0), some (vI l1), none, none, none] [vI s2, vI s1, vR s0] M Q := by
  obtain ⟨n1, hA_n1, h⟩ := h
  have hi := h.1
  have h := h.2
  have h := h _ rfl
  refine x_iast (tk K_X3_findHanging 63 rfl) hA_n1 hi ?_
  refine x_iincW (L' := [some (vR _), some (vI _), none, none, none]) (tk K_X3_findHanging 64 rfl) rfl ic_1 rfl (Nat.le_of_ble_eq_true rfl) rfl ?_
  refine x_goto (t := 2) (tk K_X3_findHanging 65 rfl) rfl ?_
  exact h

theorem e_X3_findHanging {X : Cx} {d kc ns : Nat} {M : Mem} {Q : Option AV → Mem → Prop} {a0 : Nat} (h : WA X d kc ns m_X3_findHanging 0 [some (vR a0), none, none, none, none] [] M Q) : Cl X d kc ns m_X3_findHanging [vR a0] M Q := Cl.intro (k := 4) (by decide) rfl rfl h

-- TwoPencils$Land.lookAhead([I)V
theorem b_X3_lookAhead_0 {X : Cx} {d kc ns : Nat} {M : Mem} {Q : Option AV → Mem → Prop} {l0 : Nat} {l1 : Nat} (hS : LaS M l0)
    (h : ∀ x1 : Int32, x1 = (mI M l0 4) → WA X d kc ns m_X3_lookAhead 5 [some (vR l0), some (vR l1), some (vI x1), none, none] [] M Q) :
    WA X d kc ns m_X3_lookAhead 0 [some (vR l0), some (vR l1), none, none, none] [] M Q := by
  refine x_aload_n (tk K_X3_lookAhead 0 rfl) rfl rfl ?_
  refine x_getI (tk K_X3_lookAhead 1 rfl) f_X3_41 rfl (LaS.o hS) ?_
  have h := h _ rfl
  refine x_istore_n (L' := [some (vR _), some (vR _), some (vI _), none, none]) (tk K_X3_lookAhead 2 rfl) rfl rfl (Nat.le_of_ble_eq_true rfl) rfl ?_
  exact h

theorem b_X3_lookAhead_5 {X : Cx} {d kc ns : Nat} {M : Mem} {Q : Option AV → Mem → Prop} {l0 : Nat} {l1 : Nat} {l2 : Int32} (hS : LaS M l0)
    (h : ((l2 < nI 0 → Q none M) ∧ (¬ l2 < nI 0 → ∀ x1 : Int32, x1 = ((mI M l0 0) - (nI 1)) → WA X d kc ns m_X3_lookAhead 16 [some (vR l0), some (vR l1), some (vI l2), some (vI x1), none] [] M Q))) :
    WA X d kc ns m_X3_lookAhead 5 [some (vR l0), some (vR l1), some (vI l2), none, none] [] M Q := by
  refine x_iload_n (tk K_X3_lookAhead 3 rfl) rfl rfl ?_
  refine x_if_lt (t := 67) (tk K_X3_lookAhead 4 rfl) rfl (fun hc => ?_) (fun hc => ?_)
  · have h := h.1 hc
    exact x_return (tk K_X3_lookAhead 47 rfl) rfl h
  · have h := h.2 hc
    refine x_aload_n (tk K_X3_lookAhead 5 rfl) rfl rfl ?_
    refine x_getI (tk K_X3_lookAhead 6 rfl) f_X3_28 rfl (LaS.o hS) ?_
    refine x_iconst (tk K_X3_lookAhead 7 rfl) ic_1 ?_
    refine x_isub (tk K_X3_lookAhead 8 rfl) ?_
    have h := h _ rfl
    refine x_istore_n (L' := [some (vR _), some (vR _), some (vI _), some (vI _), none]) (tk K_X3_lookAhead 9 rfl) rfl rfl (Nat.le_of_ble_eq_true rfl) rfl ?_
    exact h

theorem b_X3_lookAhead_16 {X : Cx} {d kc ns : Nat} {M : Mem} {Q : Option AV → Mem → Prop} {l0 : Nat} {l1 : Nat} {l2 : Int32} {l3 : Int32} (hS : LaS M l0)
    (h : ((l3 < nI 0 → WA X d kc ns m_X3_lookAhead 5 [some (vR l0), some (vR l1), some (vI (l2 + (-1))), none, none] [] M Q) ∧ (¬ l3 < nI 0 → ((¬ (shr l2 l3) = nI 0 → WA X d kc ns m_X3_lookAhead 5 [some (vR l0), some (vR l1), some (vI (l2 + (-1))), none, none] [] M Q) ∧ ((shr l2 l3) = nI 0 → ∃ n1 : Nat, isK M l1 14 n1 ∧ vp_in l2 n1 ∧ vp_in (l2 ||| (shl (nI 1) l3)) n1 ∧ ∀ x1 : Int32, x1 = ((mI M l1 (ix l2)) ||| (mI M l1 (ix (l2 ||| (shl (nI 1) l3))))) → vp_in l2 n1 ∧ vp_in l2 n1 ∧ ∀ M1 : Mem, M1 = sI M l1 (ix l2) ((mI M l1 (ix l2)) ||| (shl ((shr x1 (l3 + (nI 1))) &&& (nI 1)) l3)) → WA X d kc ns m_X3_lookAhead 16 [some (vR l0), some (vR l1), some (vI l2), some (vI (l3 + (-1))), none] [] M1 Q))))) :
    WA X d kc ns m_X3_lookAhead 16 [some (vR l0), some (vR l1), some (vI l2), some (vI l3), none] [] M Q := by
  refine x_iload_n (tk K_X3_lookAhead 10 rfl) rfl rfl ?_
  refine x_if_lt (t := 61) (tk K_X3_lookAhead 11 rfl) rfl (fun hc => ?_) (fun hc => ?_)
  · have h := h.1 hc
    refine x_iincW (L' := [some (vR _), some (vR _), some (vI _), some (vI _), none]) (tk K_X3_lookAhead 45 rfl) rfl ic_m1 rfl (Nat.le_of_ble_eq_true rfl) rfl ?_
    refine x_goto (t := 5) (tk K_X3_lookAhead 46 rfl) rfl ?_
    refine x_msk [true, true, true, false, false] ?_
    exact h
  · have h := h.2 hc
    refine x_iload_n (tk K_X3_lookAhead 12 rfl) rfl rfl ?_
    refine x_iload_n (tk K_X3_lookAhead 13 rfl) rfl rfl ?_
    refine x_ishr (tk K_X3_lookAhead 14 rfl) ?_
    refine x_if_ne (t := 61) (tk K_X3_lookAhead 15 rfl) rfl (fun hc => ?_) (fun hc => ?_)
    · have h := h.1 hc
      refine x_iincW (L' := [some (vR _), some (vR _), some (vI _), some (vI _), none]) (tk K_X3_lookAhead 45 rfl) rfl ic_m1 rfl (Nat.le_of_ble_eq_true rfl) rfl ?_
      refine x_goto (t := 5) (tk K_X3_lookAhead 46 rfl) rfl ?_
      refine x_msk [true, true, true, false, false] ?_
      exact h
    · have h := h.2 hc
      refine x_aload_n (tk K_X3_lookAhead 16 rfl) rfl rfl ?_
      refine x_iload_n (tk K_X3_lookAhead 17 rfl) rfl rfl ?_
      obtain ⟨n1, hA_n1, h⟩ := h
      have hi := h.1
      have h := h.2
      refine x_iald (tk K_X3_lookAhead 18 rfl) hA_n1 hi ?_
      refine x_aload_n (tk K_X3_lookAhead 19 rfl) rfl rfl ?_
      refine x_iload_n (tk K_X3_lookAhead 20 rfl) rfl rfl ?_
      refine x_iconst (tk K_X3_lookAhead 21 rfl) ic_1 ?_
      refine x_iload_n (tk K_X3_lookAhead 22 rfl) rfl rfl ?_
      refine x_ishl (tk K_X3_lookAhead 23 rfl) ?_
      refine x_ior (tk K_X3_lookAhead 24 rfl) ?_
      have hi := h.1
      have h := h.2
      refine x_iald (tk K_X3_lookAhead 25 rfl) hA_n1 hi ?_
      refine x_ior (tk K_X3_lookAhead 26 rfl) ?_
      have h := h _ rfl
      refine x_istore (L' := [some (vR _), some (vR _), some (vI _), some (vI _), some (vI _)]) (tk K_X3_lookAhead 27 rfl) rfl (Nat.le_of_ble_eq_true rfl) rfl ?_
      refine x_aload_n (tk K_X3_lookAhead 28 rfl) rfl rfl ?_
      refine x_iload_n (tk K_X3_lookAhead 29 rfl) rfl rfl ?_
      refine x_dup2 (tk K_X3_lookAhead 30 rfl) rfl rfl ?_
      have hi := h.1
      have h := h.2
      refine x_iald (tk K_X3_lookAhead 31 rfl) hA_n1 hi ?_
      refine x_iload (tk K_X3_lookAhead 32 rfl) rfl ?_
      refine x_iload_n (tk K_X3_lookAhead 33 rfl) rfl rfl ?_
      refine x_iconst (tk K_X3_lookAhead 34 rfl) ic_1 ?_
      refine x_iadd (tk K_X3_lookAhead 35 rfl) ?_
      refine x_ishr (tk K_X3_lookAhead 36 rfl) ?_
      refine x_iconst (tk K_X3_lookAhead 37 rfl) ic_1 ?_
      refine x_iand (tk K_X3_lookAhead 38 rfl) ?_
      refine x_iload_n (tk K_X3_lookAhead 39 rfl) rfl rfl ?_
      refine x_ishl (tk K_X3_lookAhead 40 rfl) ?_
      refine x_ior (tk K_X3_lookAhead 41 rfl) ?_
      have hi := h.1
      have h := h.2
      have h := h _ rfl
      refine x_iast (tk K_X3_lookAhead 42 rfl) hA_n1 hi ?_
      refine x_iincW (L' := [some (vR _), some (vR _), some (vI _), some (vI _), some (vI _)]) (tk K_X3_lookAhead 43 rfl) rfl ic_m1 rfl (Nat.le_of_ble_eq_true rfl) rfl ?_
      refine x_goto (t := 16) (tk K_X3_lookAhead 44 rfl) rfl ?_
      refine x_msk [true, true, true, true, false] ?_
      exact h

theorem e_X3_lookAhead {X : Cx} {d kc ns : Nat} {M : Mem} {Q : Option AV → Mem → Prop} {a0 : Nat} {a1 : Nat} (h : WA X d kc ns m_X3_lookAhead 0 [some (vR a0), some (vR a1), none, none, none] [] M Q) : Cl X d kc ns m_X3_lookAhead [vR a0, vR a1] M Q := Cl.intro (k := 3) (by decide) rfl rfl h

-- TwoPencils$Land.refresh()V
theorem b_X3_refresh_0 {X : Cx} {d kc ns : Nat} {M : Mem} {Q : Option AV → Mem → Prop} {l0 : Nat} (hS : LaS M l0)
    (h : WA X d kc ns m_X3_refresh 2 [some (vR l0), some (vI (nI 0)), none, none, none, none] [] M Q) :
    WA X d kc ns m_X3_refresh 0 [some (vR l0), none, none, none, none, none] [] M Q := by
  refine x_iconst (tk K_X3_refresh 0 rfl) ic_0 ?_
  refine x_istore_n (L' := [some (vR _), some (vI _), none, none, none, none]) (tk K_X3_refresh 1 rfl) rfl rfl (Nat.le_of_ble_eq_true rfl) rfl ?_
  exact h

theorem b_X3_refresh_2 {X : Cx} {d kc ns : Nat} {M : Mem} {Q : Option AV → Mem → Prop} {l0 : Nat} {l1 : Int32} (hS : LaS M l0)
    (h : (((mI M l0 0) ≤ l1 → WA X d kc ns m_X3_refresh 93 [some (vR l0), some (vI (nI 0)), none, none, none, none] [] M Q) ∧ (¬ (mI M l0 0) ≤ l1 → ∀ x1 : Int32, x1 = (l1 * (nI 3)) → vp_in x1 27 ∧ vp_in (x1 + (nI 1)) 27 ∧ vp_in (x1 + (nI 2)) 27 ∧ ∀ x2 : Int32, x2 = (((mI M (l0 + 2) (ix x1)) ||| (shl (mI M (l0 + 2) (ix (x1 + (nI 1)))) (nI 10))) ||| (shl (mI M (l0 + 2) (ix (x1 + (nI 2)))) (nI 20))) → ∀ x3 : Int32, x3 = (shl (nI 1) l1) → WA X d kc ns m_X3_refresh 53 [some (vR l0), some (vI l1), none, some (vI x2), some (vI x3), some (vI (nI 0))] [] M Q))) :
    WA X d kc ns m_X3_refresh 2 [some (vR l0), some (vI l1), none, none, none, none] [] M Q := by
  refine x_iload_n (tk K_X3_refresh 2 rfl) rfl rfl ?_
  refine x_aload_n (tk K_X3_refresh 3 rfl) rfl rfl ?_
  refine x_getI (tk K_X3_refresh 4 rfl) f_X3_28 rfl (LaS.o hS) ?_
  refine x_icmp_ge (t := 91) (tk K_X3_refresh 5 rfl) rfl (fun hc => ?_) (fun hc => ?_)
  · have h := h.1 hc
    refine x_iconst (tk K_X3_refresh 58 rfl) ic_0 ?_
    refine x_istore_n (L' := [some (vR _), some (vI _), none, none, none, none]) (tk K_X3_refresh 59 rfl) rfl rfl (Nat.le_of_ble_eq_true rfl) rfl ?_
    exact h
  · have h := h.2 hc
    refine x_iload_n (tk K_X3_refresh 6 rfl) rfl rfl ?_
    refine x_iconst (tk K_X3_refresh 7 rfl) ic_3 ?_
    refine x_imul (tk K_X3_refresh 8 rfl) ?_
    have h := h _ rfl
    refine x_istore_n (L' := [some (vR _), some (vI _), some (vI _), none, none, none]) (tk K_X3_refresh 9 rfl) rfl rfl (Nat.le_of_ble_eq_true rfl) rfl ?_
    refine x_aload_n (tk K_X3_refresh 10 rfl) rfl rfl ?_
    refine x_getRc (tk K_X3_refresh 11 rfl) f_X3_52 rfl (LaS.o hS) (LaS.r5 hS) ?_
    refine x_iload_n (tk K_X3_refresh 12 rfl) rfl rfl ?_
    have hi := h.1
    have h := h.2
    refine x_iald (tk K_X3_refresh 13 rfl) (LaS.k5 hS) hi ?_
    refine x_aload_n (tk K_X3_refresh 14 rfl) rfl rfl ?_
    refine x_getRc (tk K_X3_refresh 15 rfl) f_X3_52 rfl (LaS.o hS) (LaS.r5 hS) ?_
    refine x_iload_n (tk K_X3_refresh 16 rfl) rfl rfl ?_
    refine x_iconst (tk K_X3_refresh 17 rfl) ic_1 ?_
    refine x_iadd (tk K_X3_refresh 18 rfl) ?_
    have hi := h.1
    have h := h.2
    refine x_iald (tk K_X3_refresh 19 rfl) (LaS.k5 hS) hi ?_
    refine x_bipush (tk K_X3_refresh 20 rfl) bp_10 ?_
    refine x_ishl (tk K_X3_refresh 21 rfl) ?_
    refine x_ior (tk K_X3_refresh 22 rfl) ?_
    refine x_aload_n (tk K_X3_refresh 23 rfl) rfl rfl ?_
    refine x_getRc (tk K_X3_refresh 24 rfl) f_X3_52 rfl (LaS.o hS) (LaS.r5 hS) ?_
    refine x_iload_n (tk K_X3_refresh 25 rfl) rfl rfl ?_
    refine x_iconst (tk K_X3_refresh 26 rfl) ic_2 ?_
    refine x_iadd (tk K_X3_refresh 27 rfl) ?_
    have hi := h.1
    have h := h.2
    refine x_iald (tk K_X3_refresh 28 rfl) (LaS.k5 hS) hi ?_
    refine x_bipush (tk K_X3_refresh 29 rfl) bp_20 ?_
    refine x_ishl (tk K_X3_refresh 30 rfl) ?_
    refine x_ior (tk K_X3_refresh 31 rfl) ?_
    have h := h _ rfl
    refine x_istore_n (L' := [some (vR _), some (vI _), some (vI _), some (vI _), none, none]) (tk K_X3_refresh 32 rfl) rfl rfl (Nat.le_of_ble_eq_true rfl) rfl ?_
    refine x_iconst (tk K_X3_refresh 33 rfl) ic_1 ?_
    refine x_iload_n (tk K_X3_refresh 34 rfl) rfl rfl ?_
    refine x_ishl (tk K_X3_refresh 35 rfl) ?_
    have h := h _ rfl
    refine x_istore (L' := [some (vR _), some (vI _), some (vI _), some (vI _), some (vI _), none]) (tk K_X3_refresh 36 rfl) rfl (Nat.le_of_ble_eq_true rfl) rfl ?_
    refine x_iconst (tk K_X3_refresh 37 rfl) ic_0 ?_
    refine x_istore (L' := [some (vR _), some (vI _), some (vI _), some (vI _), some (vI _), some (vI _)]) (tk K_X3_refresh 38 rfl) rfl (Nat.le_of_ble_eq_true rfl) rfl ?_
    refine x_msk [true, true, false, true, true, true] ?_
    exact h

theorem b_X3_refresh_53 {X : Cx} {d kc ns : Nat} {M : Mem} {Q : Option AV → Mem → Prop} {l0 : Nat} {l1 : Int32} {l3 : Int32} {l4 : Int32} {l5 : Int32} (hS : LaS M l0)
    (h : ((l4 ≤ l5 → WA X d kc ns m_X3_refresh 2 [some (vR l0), some (vI (l1 + (nI 1))), none, none, none, none] [] M Q) ∧ (¬ l4 ≤ l5 → vp_in l5 (mN M (l0 + 5)) ∧ vp_in (l5 ||| l4) (mN M (l0 + 5)) ∧ ∀ M1 : Mem, M1 = sI M (l0 + 5) (ix (l5 ||| l4)) ((mI M (l0 + 5) (ix l5)) + l3) → WA X d kc ns m_X3_refresh 53 [some (vR l0), some (vI l1), none, some (vI l3), some (vI l4), some (vI (l5 + (nI 1)))] [] M1 Q))) :
    WA X d kc ns m_X3_refresh 53 [some (vR l0), some (vI l1), none, some (vI l3), some (vI l4), some (vI l5)] [] M Q := by
  refine x_iload (tk K_X3_refresh 39 rfl) rfl ?_
  refine x_iload (tk K_X3_refresh 40 rfl) rfl ?_
  refine x_icmp_ge (t := 85) (tk K_X3_refresh 41 rfl) rfl (fun hc => ?_) (fun hc => ?_)
  · have h := h.1 hc
    refine x_iincW (L' := [some (vR _), some (vI _), none, some (vI _), some (vI _), some (vI _)]) (tk K_X3_refresh 56 rfl) rfl ic_1 rfl (Nat.le_of_ble_eq_true rfl) rfl ?_
    refine x_goto (t := 2) (tk K_X3_refresh 57 rfl) rfl ?_
    refine x_msk [true, true, false, false, false, false] ?_
    exact h
  · have h := h.2 hc
    refine x_aload_n (tk K_X3_refresh 42 rfl) rfl rfl ?_
    refine x_getRc (tk K_X3_refresh 43 rfl) f_X3_61 rfl (LaS.o hS) (LaS.r8 hS) ?_
    refine x_iload (tk K_X3_refresh 44 rfl) rfl ?_
    refine x_iload (tk K_X3_refresh 45 rfl) rfl ?_
    refine x_ior (tk K_X3_refresh 46 rfl) ?_
    refine x_aload_n (tk K_X3_refresh 47 rfl) rfl rfl ?_
    refine x_getRc (tk K_X3_refresh 48 rfl) f_X3_61 rfl (LaS.o hS) (LaS.r8 hS) ?_
    refine x_iload (tk K_X3_refresh 49 rfl) rfl ?_
    have hi := h.1
    have h := h.2
    refine x_iald (tk K_X3_refresh 50 rfl) (LaS.k8 hS) hi ?_
    refine x_iload_n (tk K_X3_refresh 51 rfl) rfl rfl ?_
    refine x_iadd (tk K_X3_refresh 52 rfl) ?_
    have hi := h.1
    have h := h.2
    have h := h _ rfl
    refine x_iast (tk K_X3_refresh 53 rfl) (LaS.k8 hS) hi ?_
    refine x_iincW (L' := [some (vR _), some (vI _), none, some (vI _), some (vI _), some (vI _)]) (tk K_X3_refresh 54 rfl) rfl ic_1 rfl (Nat.le_of_ble_eq_true rfl) rfl ?_
    refine x_goto (t := 53) (tk K_X3_refresh 55 rfl) rfl ?_
    exact h

theorem b_X3_refresh_93 {X : Cx} {d kc ns : Nat} {M : Mem} {Q : Option AV → Mem → Prop} {l0 : Nat} {l1 : Int32} (hS : LaS M l0) (hd : 1 ≤ d)
    (h : (((mI M l0 4) < l1 → Cl X (d - 1) 0 0 m_X3_lookAhead [vR l0, vR (l0 + 8)] M (fun r M1 => r = none ∧ Ext M M1 ∧ ∀ M2 : Mem, M2 = sI M1 (l0 + 9) 3 (nI 0) → ∀ M3 : Mem, M3 = sI M2 l0 14 (nI 0) → Q none M3)) ∧ (¬ (mI M l0 4) < l1 → Cl X (d - 1) 0 0 m_X3_winnerOf [vR l0, vI l1] M (fun r M4 => ∃ x1 : Int32, r = some (vI x1) ∧ Ext M M4 ∧ vp_in l1 (mN M (l0 + 6)) ∧ ∀ M5 : Mem, M5 = sI M4 (l0 + 6) (ix l1) (vp_nar .byte (x1.toInt8.toInt32)) → Cl X (d - 1) 0 0 m_X3_flawOf [vR l0, vI l1] M5 (fun r M6 => ∃ x2 : Int32, r = some (vI x2) ∧ Ext M5 M6 ∧ ((¬ x2 = nI 0 → WA X d kc ns m_X3_refresh 136 [some (vR l0), some (vI l1), none, none, none, none] [vI (nI 0), vI l1, vR (l0 + 8)] M6 Q) ∧ (x2 = nI 0 → WA X d kc ns m_X3_refresh 136 [some (vR l0), some (vI l1), none, none, none, none] [vI (shl (nI 1) (mI M6 l0 0)), vI l1, vR (l0 + 8)] M6 Q))))))) :
    WA X d kc ns m_X3_refresh 93 [some (vR l0), some (vI l1), none, none, none, none] [] M Q := by
  refine x_iload_n (tk K_X3_refresh 60 rfl) rfl rfl ?_
  refine x_aload_n (tk K_X3_refresh 61 rfl) rfl rfl ?_
  refine x_getI (tk K_X3_refresh 62 rfl) f_X3_41 rfl (LaS.o hS) ?_
  refine x_icmp_gt (t := 143) (tk K_X3_refresh 63 rfl) rfl (fun hc => ?_) (fun hc => ?_)
  · have h := h.1 hc
    refine x_aload_n (tk K_X3_refresh 88 rfl) rfl rfl ?_
    refine x_aload_n (tk K_X3_refresh 89 rfl) rfl rfl ?_
    refine x_getRc (tk K_X3_refresh 90 rfl) f_X3_71 rfl (LaS.o hS) (LaS.r11 hS) ?_
    refine x_callV0 (As := [vR _]) (S := []) (tk K_X3_refresh 91 rfl) mk_X3_91 mo_X3_lookAhead (LaS.o hS) rfl rfl (Nat.le_of_ble_eq_true rfl) hd h (fun r M1 hq => ?_)
    obtain ⟨rfl, hE, h⟩ := hq
    have hT0 := LaS.ext hS hE
    have hT1 := hE.1 _ _ _ (LaS.k11 hS)
    refine x_aload_n (tk K_X3_refresh 92 rfl) rfl rfl ?_
    refine x_getRc (tk K_X3_refresh 93 rfl) f_X3_77 rfl (LaS.o hT0) (LaS.r13 hT0) ?_
    refine x_iconst (tk K_X3_refresh 94 rfl) ic_0 ?_
    have h := h _ rfl
    refine x_putZ (tk K_X3_refresh 95 rfl) f_X3_102 rfl (Or.inl rfl) (RoS.o (LaS.k13 hT0)) (Or.inl rfl) ?_
    refine x_aload_n (tk K_X3_refresh 96 rfl) rfl rfl ?_
    refine x_iconst (tk K_X3_refresh 97 rfl) ic_0 ?_
    have h := h _ rfl
    refine x_putZ (tk K_X3_refresh 98 rfl) f_X3_15 rfl (Or.inl rfl) (LaS.o hT0) (Or.inl rfl) ?_
    exact x_return (tk K_X3_refresh 99 rfl) rfl h
  · have h := h.2 hc
    refine x_aload_n (tk K_X3_refresh 64 rfl) rfl rfl ?_
    refine x_getRc (tk K_X3_refresh 65 rfl) f_X3_64 rfl (LaS.o hS) (LaS.r9 hS) ?_
    refine x_iload_n (tk K_X3_refresh 66 rfl) rfl rfl ?_
    refine x_aload_n (tk K_X3_refresh 67 rfl) rfl rfl ?_
    refine x_iload_n (tk K_X3_refresh 68 rfl) rfl rfl ?_
    refine x_callV0 (As := [vI _]) (S := [vI _, vR _]) (tk K_X3_refresh 69 rfl) mk_X3_95 mo_X3_winnerOf (LaS.o hS) rfl rfl (Nat.le_of_ble_eq_true rfl) hd h (fun r M4 hq => ?_)
    obtain ⟨x1, rfl, hE, h⟩ := hq
    have hT2 := LaS.ext hS hE
    have hT3 := hE.1 _ _ _ (LaS.k9 hS)
    refine x_i2b (tk K_X3_refresh 70 rfl) ?_
    have hi := h.1
    have h := h.2
    have h := h _ rfl
    refine x_bast (tk K_X3_refresh 71 rfl) hT3 hi ?_
    refine x_aload_n (tk K_X3_refresh 72 rfl) rfl rfl ?_
    refine x_getRc (tk K_X3_refresh 73 rfl) f_X3_71 rfl (LaS.o hT2) (LaS.r11 hT2) ?_
    refine x_iload_n (tk K_X3_refresh 74 rfl) rfl rfl ?_
    refine x_aload_n (tk K_X3_refresh 75 rfl) rfl rfl ?_
    refine x_iload_n (tk K_X3_refresh 76 rfl) rfl rfl ?_
    refine x_callV0 (As := [vI _]) (S := [vI _, vR _]) (tk K_X3_refresh 77 rfl) mk_X3_99 mo_X3_flawOf (LaS.o hT2) rfl rfl (Nat.le_of_ble_eq_true rfl) hd h (fun r M6 hq => ?_)
    obtain ⟨x2, rfl, hE, h⟩ := hq
    have hT4 := LaS.ext hT2 hE
    have hT5 := hE.1 _ _ _ hT3
    have hT6 := hE.1 _ _ _ (LaS.k11 hT2)
    refine x_if_ne (t := 135) (tk K_X3_refresh 78 rfl) rfl (fun hc => ?_) (fun hc => ?_)
    · have h := h.1 hc
      refine x_iconst (tk K_X3_refresh 84 rfl) ic_0 ?_
      exact h
    · have h := h.2 hc
      refine x_iconst (tk K_X3_refresh 79 rfl) ic_1 ?_
      refine x_aload_n (tk K_X3_refresh 80 rfl) rfl rfl ?_
      refine x_getI (tk K_X3_refresh 81 rfl) f_X3_28 rfl (LaS.o hT4) ?_
      refine x_ishl (tk K_X3_refresh 82 rfl) ?_
      refine x_goto (t := 136) (tk K_X3_refresh 83 rfl) rfl ?_
      exact h

theorem b_X3_refresh_136 {X : Cx} {d kc ns : Nat} {M : Mem} {Q : Option AV → Mem → Prop} {l0 : Nat} {l1 : Int32} {s0 : Nat} {s1 : Int32} {s2 : Int32} (hS : LaS M l0)
    (h : ∃ n1 : Nat, isK M s0 14 n1 ∧ vp_in s1 n1 ∧ ∀ M1 : Mem, M1 = sI M s0 (ix s1) s2 → WA X d kc ns m_X3_refresh 93 [some (vR l0), some (vI (l1 + (nI 1))), none, none, none, none] [] M1 Q) :
    WA X d kc ns m_X3_refresh 136 [some (vR l0), some (vI l1), none, none, none, none] [vI s2, vI s1, vR s0] M Q := by
  obtain ⟨n1, hA_n1, h⟩ := h
  have hi := h.1
  have h := h.2
  have h := h _ rfl
  refine x_iast (tk K_X3_refresh 85 rfl) hA_n1 hi ?_
  refine x_iincW (L' := [some (vR _), some (vI _), none, none, none, none]) (tk K_X3_refresh 86 rfl) rfl ic_1 rfl (Nat.le_of_ble_eq_true rfl) rfl ?_
  refine x_goto (t := 93) (tk K_X3_refresh 87 rfl) rfl ?_
  exact h

theorem e_X3_refresh {X : Cx} {d kc ns : Nat} {M : Mem} {Q : Option AV → Mem → Prop} {a0 : Nat} (h : WA X d kc ns m_X3_refresh 0 [some (vR a0), none, none, none, none, none] [] M Q) : Cl X d kc ns m_X3_refresh [vR a0] M Q := Cl.intro (k := 5) (by decide) rfl rfl h

-- TwoPencils$Land.votesIn(II)I
theorem b_X3_votesIn_0 {X : Cx} {d kc ns : Nat} {M : Mem} {Q : Option AV → Mem → Prop} {l0 : Nat} {l1 : Int32} {l2 : Int32} (hS : LaS M l0)
    (h : ((l1 < nI 0 → Q (some (vI (nI 0))) M) ∧ (¬ l1 < nI 0 → (((nI (mN M (l0 + 5))) ≤ l1 → Q (some (vI (nI 0))) M) ∧ (¬ (nI (mN M (l0 + 5))) ≤ l1 → vp_in l1 (mN M (l0 + 5)) ∧ Q (some (vI ((shr (mI M (l0 + 5) (ix l1)) ((nI 10) * l2)) &&& (nI 1023)))) M))))) :
    WA X d kc ns m_X3_votesIn 0 [some (vR l0), some (vI l1), some (vI l2)] [] M Q := by
  refine x_iload_n (tk K_X3_votesIn 0 rfl) rfl rfl ?_
  refine x_if_lt (t := 31) (tk K_X3_votesIn 1 rfl) rfl (fun hc => ?_) (fun hc => ?_)
  · have h := h.1 hc
    refine x_iconst (tk K_X3_votesIn 18 rfl) ic_0 ?_
    exact x_ireturn (tk K_X3_votesIn 19 rfl) rfl rfl h
  · have h := h.2 hc
    refine x_iload_n (tk K_X3_votesIn 2 rfl) rfl rfl ?_
    refine x_aload_n (tk K_X3_votesIn 3 rfl) rfl rfl ?_
    refine x_getRc (tk K_X3_votesIn 4 rfl) f_X3_61 rfl (LaS.o hS) (LaS.r8 hS) ?_
    refine x_alen (tk K_X3_votesIn 5 rfl) (LaS.k8 hS) rfl ?_
    refine x_icmp_ge (t := 31) (tk K_X3_votesIn 6 rfl) rfl (fun hc => ?_) (fun hc => ?_)
    · have h := h.1 hc
      refine x_iconst (tk K_X3_votesIn 18 rfl) ic_0 ?_
      exact x_ireturn (tk K_X3_votesIn 19 rfl) rfl rfl h
    · have h := h.2 hc
      refine x_aload_n (tk K_X3_votesIn 7 rfl) rfl rfl ?_
      refine x_getRc (tk K_X3_votesIn 8 rfl) f_X3_61 rfl (LaS.o hS) (LaS.r8 hS) ?_
      refine x_iload_n (tk K_X3_votesIn 9 rfl) rfl rfl ?_
      have hi := h.1
      have h := h.2
      refine x_iald (tk K_X3_votesIn 10 rfl) (LaS.k8 hS) hi ?_
      refine x_bipush (tk K_X3_votesIn 11 rfl) bp_10 ?_
      refine x_iload_n (tk K_X3_votesIn 12 rfl) rfl rfl ?_
      refine x_imul (tk K_X3_votesIn 13 rfl) ?_
      refine x_ishr (tk K_X3_votesIn 14 rfl) ?_
      refine x_sipush (tk K_X3_votesIn 15 rfl) sp_1023 ?_
      refine x_iand (tk K_X3_votesIn 16 rfl) ?_
      refine x_goto (t := 32) (tk K_X3_votesIn 17 rfl) rfl ?_
      exact x_ireturn (tk K_X3_votesIn 19 rfl) rfl rfl h

theorem e_X3_votesIn {X : Cx} {d kc ns : Nat} {M : Mem} {Q : Option AV → Mem → Prop} {a0 : Nat} {a1 : Int32} {a2 : Int32} (h : WA X d kc ns m_X3_votesIn 0 [some (vR a0), some (vI a1), some (vI a2)] [] M Q) : Cl X d kc ns m_X3_votesIn [vR a0, vI a1, vI a2] M Q := Cl.intro (k := 0) (by decide) rfl rfl h

-- TwoPencils$Land.headsIn(I)I
theorem b_X3_headsIn_0 {X : Cx} {d kc ns : Nat} {M : Mem} {Q : Option AV → Mem → Prop} {l0 : Nat} {l1 : Int32} (hS : LaS M l0) (hd : 1 ≤ d)
    (h : Cl X (d - 1) 0 0 m_X3_votesIn [vR l0, vI l1, vI (nI 0)] M (fun r M1 => ∃ x1 : Int32, r = some (vI x1) ∧ Ext M M1 ∧ Cl X (d - 1) 0 0 m_X3_votesIn [vR l0, vI l1, vI (nI 1)] M1 (fun r M2 => ∃ x2 : Int32, r = some (vI x2) ∧ Ext M1 M2 ∧ Cl X (d - 1) 0 0 m_X3_votesIn [vR l0, vI l1, vI (nI 2)] M2 (fun r M3 => ∃ x3 : Int32, r = some (vI x3) ∧ Ext M2 M3 ∧ Q (some (vI ((x1 + x2) + x3))) M3)))) :
    WA X d kc ns m_X3_headsIn 0 [some (vR l0), some (vI l1)] [] M Q := by
  refine x_aload_n (tk K_X3_headsIn 0 rfl) rfl rfl ?_
  refine x_iload_n (tk K_X3_headsIn 1 rfl) rfl rfl ?_
  refine x_iconst (tk K_X3_headsIn 2 rfl) ic_0 ?_
  refine x_callV0 (As := [vI _, vI _]) (S := []) (tk K_X3_headsIn 3 rfl) mk_X3_105 mo_X3_votesIn (LaS.o hS) rfl rfl (Nat.le_of_ble_eq_true rfl) hd h (fun r M1 hq => ?_)
  obtain ⟨x1, rfl, hE, h⟩ := hq
  have hT0 := LaS.ext hS hE
  refine x_aload_n (tk K_X3_headsIn 4 rfl) rfl rfl ?_
  refine x_iload_n (tk K_X3_headsIn 5 rfl) rfl rfl ?_
  refine x_iconst (tk K_X3_headsIn 6 rfl) ic_1 ?_
  refine x_callV0 (As := [vI _, vI _]) (S := [vI _]) (tk K_X3_headsIn 7 rfl) mk_X3_105 mo_X3_votesIn (LaS.o hT0) rfl rfl (Nat.le_of_ble_eq_true rfl) hd h (fun r M2 hq => ?_)
  obtain ⟨x2, rfl, hE, h⟩ := hq
  have hT1 := LaS.ext hT0 hE
  refine x_iadd (tk K_X3_headsIn 8 rfl) ?_
  refine x_aload_n (tk K_X3_headsIn 9 rfl) rfl rfl ?_
  refine x_iload_n (tk K_X3_headsIn 10 rfl) rfl rfl ?_
  refine x_iconst (tk K_X3_headsIn 11 rfl) ic_2 ?_
  refine x_callV0 (As := [vI _, vI _]) (S := [vI _]) (tk K_X3_headsIn 12 rfl) mk_X3_105 mo_X3_votesIn (LaS.o hT1) rfl rfl (Nat.le_of_ble_eq_true rfl) hd h (fun r M3 hq => ?_)
  obtain ⟨x3, rfl, hE, h⟩ := hq
  have hT2 := LaS.ext hT1 hE
  refine x_iadd (tk K_X3_headsIn 13 rfl) ?_
  exact x_ireturn (tk K_X3_headsIn 14 rfl) rfl rfl h

theorem e_X3_headsIn {X : Cx} {d kc ns : Nat} {M : Mem} {Q : Option AV → Mem → Prop} {a0 : Nat} {a1 : Int32} (h : WA X d kc ns m_X3_headsIn 0 [some (vR a0), some (vI a1)] [] M Q) : Cl X d kc ns m_X3_headsIn [vR a0, vI a1] M Q := Cl.intro (k := 0) (by decide) rfl rfl h

-- TwoPencils$Land.winnerOf(I)I
theorem b_X3_winnerOf_0 {X : Cx} {d kc ns : Nat} {M : Mem} {Q : Option AV → Mem → Prop} {l0 : Nat} {l1 : Int32} (hS : LaS M l0) (hd : 1 ≤ d)
    (h : Cl X (d - 1) 0 0 m_X3_votesIn [vR l0, vI l1, vI (nI 0)] M (fun r M1 => ∃ x1 : Int32, r = some (vI x1) ∧ Ext M M1 ∧ Cl X (d - 1) 0 0 m_X3_votesIn [vR l0, vI l1, vI (nI 1)] M1 (fun r M2 => ∃ x2 : Int32, r = some (vI x2) ∧ Ext M1 M2 ∧ Cl X (d - 1) 0 0 m_X3_votesIn [vR l0, vI l1, vI (nI 2)] M2 (fun r M3 => ∃ x3 : Int32, r = some (vI x3) ∧ Ext M2 M3 ∧ ((x1 ≤ x2 → WA X d kc ns m_X3_winnerOf 35 [some (vR l0), none, some (vI x1), some (vI x2), some (vI x3)] [] M3 Q) ∧ (¬ x1 ≤ x2 → ((x1 ≤ x3 → WA X d kc ns m_X3_winnerOf 35 [some (vR l0), none, some (vI x1), some (vI x2), some (vI x3)] [] M3 Q) ∧ (¬ x1 ≤ x3 → Q (some (vI (nI 0))) M3)))))))) :
    WA X d kc ns m_X3_winnerOf 0 [some (vR l0), some (vI l1), none, none, none] [] M Q := by
  refine x_aload_n (tk K_X3_winnerOf 0 rfl) rfl rfl ?_
  refine x_iload_n (tk K_X3_winnerOf 1 rfl) rfl rfl ?_
  refine x_iconst (tk K_X3_winnerOf 2 rfl) ic_0 ?_
  refine x_callV0 (As := [vI _, vI _]) (S := []) (tk K_X3_winnerOf 3 rfl) mk_X3_105 mo_X3_votesIn (LaS.o hS) rfl rfl (Nat.le_of_ble_eq_true rfl) hd h (fun r M1 hq => ?_)
  obtain ⟨x1, rfl, hE, h⟩ := hq
  have hT0 := LaS.ext hS hE
  refine x_istore_n (L' := [some (vR _), some (vI _), some (vI _), none, none]) (tk K_X3_winnerOf 4 rfl) rfl rfl (Nat.le_of_ble_eq_true rfl) rfl ?_
  refine x_aload_n (tk K_X3_winnerOf 5 rfl) rfl rfl ?_
  refine x_iload_n (tk K_X3_winnerOf 6 rfl) rfl rfl ?_
  refine x_iconst (tk K_X3_winnerOf 7 rfl) ic_1 ?_
  refine x_callV0 (As := [vI _, vI _]) (S := []) (tk K_X3_winnerOf 8 rfl) mk_X3_105 mo_X3_votesIn (LaS.o hT0) rfl rfl (Nat.le_of_ble_eq_true rfl) hd h (fun r M2 hq => ?_)
  obtain ⟨x2, rfl, hE, h⟩ := hq
  have hT1 := LaS.ext hT0 hE
  refine x_istore_n (L' := [some (vR _), some (vI _), some (vI _), some (vI _), none]) (tk K_X3_winnerOf 9 rfl) rfl rfl (Nat.le_of_ble_eq_true rfl) rfl ?_
  refine x_aload_n (tk K_X3_winnerOf 10 rfl) rfl rfl ?_
  refine x_iload_n (tk K_X3_winnerOf 11 rfl) rfl rfl ?_
  refine x_iconst (tk K_X3_winnerOf 12 rfl) ic_2 ?_
  refine x_callV0 (As := [vI _, vI _]) (S := []) (tk K_X3_winnerOf 13 rfl) mk_X3_105 mo_X3_votesIn (LaS.o hT1) rfl rfl (Nat.le_of_ble_eq_true rfl) hd h (fun r M3 hq => ?_)
  obtain ⟨x3, rfl, hE, h⟩ := hq
  have hT2 := LaS.ext hT1 hE
  refine x_istore (L' := [some (vR _), some (vI _), some (vI _), some (vI _), some (vI _)]) (tk K_X3_winnerOf 14 rfl) rfl (Nat.le_of_ble_eq_true rfl) rfl ?_
  refine x_iload_n (tk K_X3_winnerOf 15 rfl) rfl rfl ?_
  refine x_iload_n (tk K_X3_winnerOf 16 rfl) rfl rfl ?_
  refine x_icmp_le (t := 35) (tk K_X3_winnerOf 17 rfl) rfl (fun hc => ?_) (fun hc => ?_)
  · have h := h.1 hc
    refine x_msk [true, false, true, true, true] ?_
    exact h
  · have h := h.2 hc
    refine x_iload_n (tk K_X3_winnerOf 18 rfl) rfl rfl ?_
    refine x_iload (tk K_X3_winnerOf 19 rfl) rfl ?_
    refine x_icmp_le (t := 35) (tk K_X3_winnerOf 20 rfl) rfl (fun hc => ?_) (fun hc => ?_)
    · have h := h.1 hc
      refine x_msk [true, false, true, true, true] ?_
      exact h
    · have h := h.2 hc
      refine x_iconst (tk K_X3_winnerOf 21 rfl) ic_0 ?_
      exact x_ireturn (tk K_X3_winnerOf 22 rfl) rfl rfl h

theorem b_X3_winnerOf_35 {X : Cx} {d kc ns : Nat} {M : Mem} {Q : Option AV → Mem → Prop} {l0 : Nat} {l2 : Int32} {l3 : Int32} {l4 : Int32} (hS : LaS M l0)
    (h : ((l3 ≤ l2 → WA X d kc ns m_X3_winnerOf 48 [some (vR l0), none, some (vI l2), some (vI l3), some (vI l4)] [] M Q) ∧ (¬ l3 ≤ l2 → ((l3 ≤ l4 → WA X d kc ns m_X3_winnerOf 48 [some (vR l0), none, some (vI l2), some (vI l3), some (vI l4)] [] M Q) ∧ (¬ l3 ≤ l4 → Q (some (vI (nI 1))) M))))) :
    WA X d kc ns m_X3_winnerOf 35 [some (vR l0), none, some (vI l2), some (vI l3), some (vI l4)] [] M Q := by
  refine x_iload_n (tk K_X3_winnerOf 23 rfl) rfl rfl ?_
  refine x_iload_n (tk K_X3_winnerOf 24 rfl) rfl rfl ?_
  refine x_icmp_le (t := 48) (tk K_X3_winnerOf 25 rfl) rfl (fun hc => ?_) (fun hc => ?_)
  · have h := h.1 hc
    exact h
  · have h := h.2 hc
    refine x_iload_n (tk K_X3_winnerOf 26 rfl) rfl rfl ?_
    refine x_iload (tk K_X3_winnerOf 27 rfl) rfl ?_
    refine x_icmp_le (t := 48) (tk K_X3_winnerOf 28 rfl) rfl (fun hc => ?_) (fun hc => ?_)
    · have h := h.1 hc
      exact h
    · have h := h.2 hc
      refine x_iconst (tk K_X3_winnerOf 29 rfl) ic_1 ?_
      exact x_ireturn (tk K_X3_winnerOf 30 rfl) rfl rfl h

theorem b_X3_winnerOf_48 {X : Cx} {d kc ns : Nat} {M : Mem} {Q : Option AV → Mem → Prop} {l0 : Nat} {l2 : Int32} {l3 : Int32} {l4 : Int32} (hS : LaS M l0)
    (h : ((l4 ≤ l2 → Q (some (vI (nI 3))) M) ∧ (¬ l4 ≤ l2 → ((l4 ≤ l3 → Q (some (vI (nI 3))) M) ∧ (¬ l4 ≤ l3 → Q (some (vI (nI 2))) M))))) :
    WA X d kc ns m_X3_winnerOf 48 [some (vR l0), none, some (vI l2), some (vI l3), some (vI l4)] [] M Q := by
  refine x_iload (tk K_X3_winnerOf 31 rfl) rfl ?_
  refine x_iload_n (tk K_X3_winnerOf 32 rfl) rfl rfl ?_
  refine x_icmp_le (t := 64) (tk K_X3_winnerOf 33 rfl) rfl (fun hc => ?_) (fun hc => ?_)
  · have h := h.1 hc
    refine x_iconst (tk K_X3_winnerOf 39 rfl) ic_3 ?_
    exact x_ireturn (tk K_X3_winnerOf 40 rfl) rfl rfl h
  · have h := h.2 hc
    refine x_iload (tk K_X3_winnerOf 34 rfl) rfl ?_
    refine x_iload_n (tk K_X3_winnerOf 35 rfl) rfl rfl ?_
    refine x_icmp_le (t := 64) (tk K_X3_winnerOf 36 rfl) rfl (fun hc => ?_) (fun hc => ?_)
    · have h := h.1 hc
      refine x_iconst (tk K_X3_winnerOf 39 rfl) ic_3 ?_
      exact x_ireturn (tk K_X3_winnerOf 40 rfl) rfl rfl h
    · have h := h.2 hc
      refine x_iconst (tk K_X3_winnerOf 37 rfl) ic_2 ?_
      refine x_goto (t := 65) (tk K_X3_winnerOf 38 rfl) rfl ?_
      exact x_ireturn (tk K_X3_winnerOf 40 rfl) rfl rfl h

theorem e_X3_winnerOf {X : Cx} {d kc ns : Nat} {M : Mem} {Q : Option AV → Mem → Prop} {a0 : Nat} {a1 : Int32} (h : WA X d kc ns m_X3_winnerOf 0 [some (vR a0), some (vI a1), none, none, none] [] M Q) : Cl X d kc ns m_X3_winnerOf [vR a0, vI a1] M Q := Cl.intro (k := 3) (by decide) rfl rfl h

-- TwoPencils$Land.flawOf(I)I
theorem b_X3_flawOf_0 {X : Cx} {d kc ns : Nat} {M : Mem} {Q : Option AV → Mem → Prop} {l0 : Nat} {l1 : Int32} (hS : LaS M l0) (hd : 1 ≤ d)
    (h : Cl X (d - 1) 0 0 m_X3_isHanging [vR l0, vI l1] M (fun r M1 => ∃ x1 : Int32, r = some (vI x1) ∧ Ext M M1 ∧ ((¬ x1 = nI 0 → Cl X (d - 1) 0 0 m_X3_headsIn [vR l0, vI l1] M1 (fun r M2 => ∃ x2 : Int32, r = some (vI x2) ∧ Ext M1 M2 ∧ ((x2 < (mI M2 l0 2) → Q (some (vI (nI 3))) M2) ∧ (¬ x2 < (mI M2 l0 2) → ((x2 ≤ (mI M2 l0 3) → WA X d kc ns m_X3_flawOf 36 [some (vR l0), some (vI l1), none, some (vI (nI 0))] [] M2 Q) ∧ (¬ x2 ≤ (mI M2 l0 3) → Q (some (vI (nI 3))) M2)))))) ∧ (x1 = nI 0 → Q (some (vI (nI 2))) M1)))) :
    WA X d kc ns m_X3_flawOf 0 [some (vR l0), some (vI l1), none, none] [] M Q := by
  refine x_aload_n (tk K_X3_flawOf 0 rfl) rfl rfl ?_
  refine x_iload_n (tk K_X3_flawOf 1 rfl) rfl rfl ?_
  refine x_callV0 (As := [vI _]) (S := []) (tk K_X3_flawOf 2 rfl) mk_X3_87 mo_X3_isHanging (LaS.o hS) rfl rfl (Nat.le_of_ble_eq_true rfl) hd h (fun r M1 hq => ?_)
  obtain ⟨x1, rfl, hE, h⟩ := hq
  have hT0 := LaS.ext hS hE
  refine x_if_ne (t := 10) (tk K_X3_flawOf 3 rfl) rfl (fun hc => ?_) (fun hc => ?_)
  · have h := h.1 hc
    refine x_aload_n (tk K_X3_flawOf 6 rfl) rfl rfl ?_
    refine x_iload_n (tk K_X3_flawOf 7 rfl) rfl rfl ?_
    refine x_callV0 (As := [vI _]) (S := []) (tk K_X3_flawOf 8 rfl) mk_X3_109 mo_X3_headsIn (LaS.o hT0) rfl rfl (Nat.le_of_ble_eq_true rfl) hd h (fun r M2 hq => ?_)
    obtain ⟨x2, rfl, hE, h⟩ := hq
    have hT1 := LaS.ext hT0 hE
    refine x_istore_n (L' := [some (vR _), some (vI _), some (vI _), none]) (tk K_X3_flawOf 9 rfl) rfl rfl (Nat.le_of_ble_eq_true rfl) rfl ?_
    refine x_iload_n (tk K_X3_flawOf 10 rfl) rfl rfl ?_
    refine x_aload_n (tk K_X3_flawOf 11 rfl) rfl rfl ?_
    refine x_getI (tk K_X3_flawOf 12 rfl) f_X3_36 rfl (LaS.o hT1) ?_
    refine x_icmp_lt (t := 32) (tk K_X3_flawOf 13 rfl) rfl (fun hc => ?_) (fun hc => ?_)
    · have h := h.1 hc
      refine x_iconst (tk K_X3_flawOf 18 rfl) ic_3 ?_
      exact x_ireturn (tk K_X3_flawOf 19 rfl) rfl rfl h
    · have h := h.2 hc
      refine x_iload_n (tk K_X3_flawOf 14 rfl) rfl rfl ?_
      refine x_aload_n (tk K_X3_flawOf 15 rfl) rfl rfl ?_
      refine x_getI (tk K_X3_flawOf 16 rfl) f_X3_40 rfl (LaS.o hT1) ?_
      refine x_icmp_le (t := 34) (tk K_X3_flawOf 17 rfl) rfl (fun hc => ?_) (fun hc => ?_)
      · have h := h.1 hc
        refine x_iconst (tk K_X3_flawOf 20 rfl) ic_0 ?_
        refine x_istore_n (L' := [some (vR _), some (vI _), some (vI _), some (vI _)]) (tk K_X3_flawOf 21 rfl) rfl rfl (Nat.le_of_ble_eq_true rfl) rfl ?_
        refine x_msk [true, true, false, true] ?_
        exact h
      · have h := h.2 hc
        refine x_iconst (tk K_X3_flawOf 18 rfl) ic_3 ?_
        exact x_ireturn (tk K_X3_flawOf 19 rfl) rfl rfl h
  · have h := h.2 hc
    refine x_iconst (tk K_X3_flawOf 4 rfl) ic_2 ?_
    exact x_ireturn (tk K_X3_flawOf 5 rfl) rfl rfl h

theorem b_X3_flawOf_36 {X : Cx} {d kc ns : Nat} {M : Mem} {Q : Option AV → Mem → Prop} {l0 : Nat} {l1 : Int32} {l3 : Int32} (hS : LaS M l0)
    (h : (((mI M l0 0) ≤ l3 → Q (some (vI (nI 0))) M) ∧ (¬ (mI M l0 0) ≤ l3 → ((((shr l1 l3) &&& (nI 1)) = nI 0 → WA X d kc ns m_X3_flawOf 36 [some (vR l0), some (vI l1), none, some (vI (l3 + (nI 1)))] [] M Q) ∧ (¬ ((shr l1 l3) &&& (nI 1)) = nI 0 → vp_in l3 9 ∧ ((((mI M (l0 + 4) (ix l3)) &&& (l1 ^^^ (-1))) = nI 0 → WA X d kc ns m_X3_flawOf 36 [some (vR l0), some (vI l1), none, some (vI (l3 + (nI 1)))] [] M Q) ∧ (¬ ((mI M (l0 + 4) (ix l3)) &&& (l1 ^^^ (-1))) = nI 0 → Q (some (vI (nI 4))) M))))))) :
    WA X d kc ns m_X3_flawOf 36 [some (vR l0), some (vI l1), none, some (vI l3)] [] M Q := by
  refine x_iload_n (tk K_X3_flawOf 22 rfl) rfl rfl ?_
  refine x_aload_n (tk K_X3_flawOf 23 rfl) rfl rfl ?_
  refine x_getI (tk K_X3_flawOf 24 rfl) f_X3_28 rfl (LaS.o hS) ?_
  refine x_icmp_ge (t := 73) (tk K_X3_flawOf 25 rfl) rfl (fun hc => ?_) (fun hc => ?_)
  · have h := h.1 hc
    refine x_iconst (tk K_X3_flawOf 45 rfl) ic_0 ?_
    exact x_ireturn (tk K_X3_flawOf 46 rfl) rfl rfl h
  · have h := h.2 hc
    refine x_iload_n (tk K_X3_flawOf 26 rfl) rfl rfl ?_
    refine x_iload_n (tk K_X3_flawOf 27 rfl) rfl rfl ?_
    refine x_ishr (tk K_X3_flawOf 28 rfl) ?_
    refine x_iconst (tk K_X3_flawOf 29 rfl) ic_1 ?_
    refine x_iand (tk K_X3_flawOf 30 rfl) ?_
    refine x_if_eq (t := 67) (tk K_X3_flawOf 31 rfl) rfl (fun hc => ?_) (fun hc => ?_)
    · have h := h.1 hc
      refine x_iincW (L' := [some (vR _), some (vI _), none, some (vI _)]) (tk K_X3_flawOf 43 rfl) rfl ic_1 rfl (Nat.le_of_ble_eq_true rfl) rfl ?_
      refine x_goto (t := 36) (tk K_X3_flawOf 44 rfl) rfl ?_
      exact h
    · have h := h.2 hc
      refine x_aload_n (tk K_X3_flawOf 32 rfl) rfl rfl ?_
      refine x_getRc (tk K_X3_flawOf 33 rfl) f_X3_60 rfl (LaS.o hS) (LaS.r7 hS) ?_
      refine x_iload_n (tk K_X3_flawOf 34 rfl) rfl rfl ?_
      have hi := h.1
      have h := h.2
      refine x_iald (tk K_X3_flawOf 35 rfl) (LaS.k7 hS) hi ?_
      refine x_iload_n (tk K_X3_flawOf 36 rfl) rfl rfl ?_
      refine x_iconst (tk K_X3_flawOf 37 rfl) ic_m1 ?_
      refine x_ixor (tk K_X3_flawOf 38 rfl) ?_
      refine x_iand (tk K_X3_flawOf 39 rfl) ?_
      refine x_if_eq (t := 67) (tk K_X3_flawOf 40 rfl) rfl (fun hc => ?_) (fun hc => ?_)
      · have h := h.1 hc
        refine x_iincW (L' := [some (vR _), some (vI _), none, some (vI _)]) (tk K_X3_flawOf 43 rfl) rfl ic_1 rfl (Nat.le_of_ble_eq_true rfl) rfl ?_
        refine x_goto (t := 36) (tk K_X3_flawOf 44 rfl) rfl ?_
        exact h
      · have h := h.2 hc
        refine x_iconst (tk K_X3_flawOf 41 rfl) ic_4 ?_
        exact x_ireturn (tk K_X3_flawOf 42 rfl) rfl rfl h

theorem e_X3_flawOf {X : Cx} {d kc ns : Nat} {M : Mem} {Q : Option AV → Mem → Prop} {a0 : Nat} {a1 : Int32} (h : WA X d kc ns m_X3_flawOf 0 [some (vR a0), some (vI a1), none, none] [] M Q) : Cl X d kc ns m_X3_flawOf [vR a0, vI a1] M Q := Cl.intro (k := 2) (by decide) rfl rfl h

-- TwoPencils$Land.isHanging(I)Z
theorem b_X3_isHanging_0 {X : Cx} {d kc ns : Nat} {M : Mem} {Q : Option AV → Mem → Prop} {l0 : Nat} {l1 : Int32} (hS : LaS M l0)
    (h : ((l1 < nI 0 → Q (some (vI (nI 0))) M) ∧ (¬ l1 < nI 0 → (((nI (mN M (l0 + 7))) ≤ l1 → Q (some (vI (nI 0))) M) ∧ (¬ (nI (mN M (l0 + 7))) ≤ l1 → vp_in l1 (mN M (l0 + 7)) ∧ ((((shr (mI M (l0 + 7) (ix l1)) (mI M l0 0)) &&& (nI 1)) = nI 0 → Q (some (vI (nI 0))) M) ∧ (¬ ((shr (mI M (l0 + 7) (ix l1)) (mI M l0 0)) &&& (nI 1)) = nI 0 → Q (some (vI (nI 1))) M))))))) :
    WA X d kc ns m_X3_isHanging 0 [some (vR l0), some (vI l1)] [] M Q := by
  refine x_iload_n (tk K_X3_isHanging 0 rfl) rfl rfl ?_
  refine x_if_lt (t := 33) (tk K_X3_isHanging 1 rfl) rfl (fun hc => ?_) (fun hc => ?_)
  · have h := h.1 hc
    refine x_iconst (tk K_X3_isHanging 19 rfl) ic_0 ?_
    exact x_ireturn (tk K_X3_isHanging 20 rfl) rfl (fitZ (Or.inl rfl)).1 h
  · have h := h.2 hc
    refine x_iload_n (tk K_X3_isHanging 2 rfl) rfl rfl ?_
    refine x_aload_n (tk K_X3_isHanging 3 rfl) rfl rfl ?_
    refine x_getRc (tk K_X3_isHanging 4 rfl) f_X3_68 rfl (LaS.o hS) (LaS.r10 hS) ?_
    refine x_alen (tk K_X3_isHanging 5 rfl) (LaS.k10 hS) rfl ?_
    refine x_icmp_ge (t := 33) (tk K_X3_isHanging 6 rfl) rfl (fun hc => ?_) (fun hc => ?_)
    · have h := h.1 hc
      refine x_iconst (tk K_X3_isHanging 19 rfl) ic_0 ?_
      exact x_ireturn (tk K_X3_isHanging 20 rfl) rfl (fitZ (Or.inl rfl)).1 h
    · have h := h.2 hc
      refine x_aload_n (tk K_X3_isHanging 7 rfl) rfl rfl ?_
      refine x_getRc (tk K_X3_isHanging 8 rfl) f_X3_68 rfl (LaS.o hS) (LaS.r10 hS) ?_
      refine x_iload_n (tk K_X3_isHanging 9 rfl) rfl rfl ?_
      have hi := h.1
      have h := h.2
      refine x_iald (tk K_X3_isHanging 10 rfl) (LaS.k10 hS) hi ?_
      refine x_aload_n (tk K_X3_isHanging 11 rfl) rfl rfl ?_
      refine x_getI (tk K_X3_isHanging 12 rfl) f_X3_28 rfl (LaS.o hS) ?_
      refine x_ishr (tk K_X3_isHanging 13 rfl) ?_
      refine x_iconst (tk K_X3_isHanging 14 rfl) ic_1 ?_
      refine x_iand (tk K_X3_isHanging 15 rfl) ?_
      refine x_if_eq (t := 33) (tk K_X3_isHanging 16 rfl) rfl (fun hc => ?_) (fun hc => ?_)
      · have h := h.1 hc
        refine x_iconst (tk K_X3_isHanging 19 rfl) ic_0 ?_
        exact x_ireturn (tk K_X3_isHanging 20 rfl) rfl (fitZ (Or.inl rfl)).1 h
      · have h := h.2 hc
        refine x_iconst (tk K_X3_isHanging 17 rfl) ic_1 ?_
        refine x_goto (t := 34) (tk K_X3_isHanging 18 rfl) rfl ?_
        exact x_ireturn (tk K_X3_isHanging 20 rfl) rfl (fitZ (Or.inr rfl)).1 h

theorem e_X3_isHanging {X : Cx} {d kc ns : Nat} {M : Mem} {Q : Option AV → Mem → Prop} {a0 : Nat} {a1 : Int32} (h : WA X d kc ns m_X3_isHanging 0 [some (vR a0), some (vI a1)] [] M Q) : Cl X d kc ns m_X3_isHanging [vR a0, vI a1] M Q := Cl.intro (k := 0) (by decide) rfl rfl h

-- TwoPencils$Land.isLawful(I)Z
theorem b_X3_isLawful_0 {X : Cx} {d kc ns : Nat} {M : Mem} {Q : Option AV → Mem → Prop} {l0 : Nat} {l1 : Int32} (hS : LaS M l0)
    (h : ((l1 < nI 0 → Q (some (vI (nI 0))) M) ∧ (¬ l1 < nI 0 → (((nI (mN M (l0 + 8))) ≤ l1 → Q (some (vI (nI 0))) M) ∧ (¬ (nI (mN M (l0 + 8))) ≤ l1 → vp_in l1 (mN M (l0 + 8)) ∧ ((((shr (mI M (l0 + 8) (ix l1)) (mI M l0 0)) &&& (nI 1)) = nI 0 → Q (some (vI (nI 0))) M) ∧ (¬ ((shr (mI M (l0 + 8) (ix l1)) (mI M l0 0)) &&& (nI 1)) = nI 0 → Q (some (vI (nI 1))) M))))))) :
    WA X d kc ns m_X3_isLawful 0 [some (vR l0), some (vI l1)] [] M Q := by
  refine x_iload_n (tk K_X3_isLawful 0 rfl) rfl rfl ?_
  refine x_if_lt (t := 33) (tk K_X3_isLawful 1 rfl) rfl (fun hc => ?_) (fun hc => ?_)
  · have h := h.1 hc
    refine x_iconst (tk K_X3_isLawful 19 rfl) ic_0 ?_
    exact x_ireturn (tk K_X3_isLawful 20 rfl) rfl (fitZ (Or.inl rfl)).1 h
  · have h := h.2 hc
    refine x_iload_n (tk K_X3_isLawful 2 rfl) rfl rfl ?_
    refine x_aload_n (tk K_X3_isLawful 3 rfl) rfl rfl ?_
    refine x_getRc (tk K_X3_isLawful 4 rfl) f_X3_71 rfl (LaS.o hS) (LaS.r11 hS) ?_
    refine x_alen (tk K_X3_isLawful 5 rfl) (LaS.k11 hS) rfl ?_
    refine x_icmp_ge (t := 33) (tk K_X3_isLawful 6 rfl) rfl (fun hc => ?_) (fun hc => ?_)
    · have h := h.1 hc
      refine x_iconst (tk K_X3_isLawful 19 rfl) ic_0 ?_
      exact x_ireturn (tk K_X3_isLawful 20 rfl) rfl (fitZ (Or.inl rfl)).1 h
    · have h := h.2 hc
      refine x_aload_n (tk K_X3_isLawful 7 rfl) rfl rfl ?_
      refine x_getRc (tk K_X3_isLawful 8 rfl) f_X3_71 rfl (LaS.o hS) (LaS.r11 hS) ?_
      refine x_iload_n (tk K_X3_isLawful 9 rfl) rfl rfl ?_
      have hi := h.1
      have h := h.2
      refine x_iald (tk K_X3_isLawful 10 rfl) (LaS.k11 hS) hi ?_
      refine x_aload_n (tk K_X3_isLawful 11 rfl) rfl rfl ?_
      refine x_getI (tk K_X3_isLawful 12 rfl) f_X3_28 rfl (LaS.o hS) ?_
      refine x_ishr (tk K_X3_isLawful 13 rfl) ?_
      refine x_iconst (tk K_X3_isLawful 14 rfl) ic_1 ?_
      refine x_iand (tk K_X3_isLawful 15 rfl) ?_
      refine x_if_eq (t := 33) (tk K_X3_isLawful 16 rfl) rfl (fun hc => ?_) (fun hc => ?_)
      · have h := h.1 hc
        refine x_iconst (tk K_X3_isLawful 19 rfl) ic_0 ?_
        exact x_ireturn (tk K_X3_isLawful 20 rfl) rfl (fitZ (Or.inl rfl)).1 h
      · have h := h.2 hc
        refine x_iconst (tk K_X3_isLawful 17 rfl) ic_1 ?_
        refine x_goto (t := 34) (tk K_X3_isLawful 18 rfl) rfl ?_
        exact x_ireturn (tk K_X3_isLawful 20 rfl) rfl (fitZ (Or.inr rfl)).1 h

theorem e_X3_isLawful {X : Cx} {d kc ns : Nat} {M : Mem} {Q : Option AV → Mem → Prop} {a0 : Nat} {a1 : Int32} (h : WA X d kc ns m_X3_isLawful 0 [some (vR a0), some (vI a1)] [] M Q) : Cl X d kc ns m_X3_isLawful [vR a0, vI a1] M Q := Cl.intro (k := 0) (by decide) rfl rfl h

-- TwoPencils$Land.winnerIn(I)I
theorem b_X3_winnerIn_0 {X : Cx} {d kc ns : Nat} {M : Mem} {Q : Option AV → Mem → Prop} {l0 : Nat} {l1 : Int32} (hS : LaS M l0)
    (h : ((l1 < nI 0 → Q (some (vI (nI 3))) M) ∧ (¬ l1 < nI 0 → (((nI (mN M (l0 + 6))) ≤ l1 → Q (some (vI (nI 3))) M) ∧ (¬ (nI (mN M (l0 + 6))) ≤ l1 → vp_in l1 (mN M (l0 + 6)) ∧ Q (some (vI (mI M (l0 + 6) (ix l1)))) M))))) :
    WA X d kc ns m_X3_winnerIn 0 [some (vR l0), some (vI l1)] [] M Q := by
  refine x_iload_n (tk K_X3_winnerIn 0 rfl) rfl rfl ?_
  refine x_if_lt (t := 22) (tk K_X3_winnerIn 1 rfl) rfl (fun hc => ?_) (fun hc => ?_)
  · have h := h.1 hc
    refine x_iconst (tk K_X3_winnerIn 12 rfl) ic_3 ?_
    exact x_ireturn (tk K_X3_winnerIn 13 rfl) rfl rfl h
  · have h := h.2 hc
    refine x_iload_n (tk K_X3_winnerIn 2 rfl) rfl rfl ?_
    refine x_aload_n (tk K_X3_winnerIn 3 rfl) rfl rfl ?_
    refine x_getRc (tk K_X3_winnerIn 4 rfl) f_X3_64 rfl (LaS.o hS) (LaS.r9 hS) ?_
    refine x_alen (tk K_X3_winnerIn 5 rfl) (LaS.k9 hS) rfl ?_
    refine x_icmp_ge (t := 22) (tk K_X3_winnerIn 6 rfl) rfl (fun hc => ?_) (fun hc => ?_)
    · have h := h.1 hc
      refine x_iconst (tk K_X3_winnerIn 12 rfl) ic_3 ?_
      exact x_ireturn (tk K_X3_winnerIn 13 rfl) rfl rfl h
    · have h := h.2 hc
      refine x_aload_n (tk K_X3_winnerIn 7 rfl) rfl rfl ?_
      refine x_getRc (tk K_X3_winnerIn 8 rfl) f_X3_64 rfl (LaS.o hS) (LaS.r9 hS) ?_
      refine x_iload_n (tk K_X3_winnerIn 9 rfl) rfl rfl ?_
      have hi := h.1
      have h := h.2
      refine x_bald (tk K_X3_winnerIn 10 rfl) (LaS.k9 hS) hi ?_
      refine x_goto (t := 23) (tk K_X3_winnerIn 11 rfl) rfl ?_
      exact x_ireturn (tk K_X3_winnerIn 13 rfl) rfl rfl h

theorem e_X3_winnerIn {X : Cx} {d kc ns : Nat} {M : Mem} {Q : Option AV → Mem → Prop} {a0 : Nat} {a1 : Int32} (h : WA X d kc ns m_X3_winnerIn 0 [some (vR a0), some (vI a1)] [] M Q) : Cl X d kc ns m_X3_winnerIn [vR a0, vI a1] M Q := Cl.intro (k := 0) (by decide) rfl rfl h

-- TwoPencils$Land.votesInAll(I)I
theorem b_X3_votesInAll_0 {X : Cx} {d kc ns : Nat} {M : Mem} {Q : Option AV → Mem → Prop} {l0 : Nat} {l1 : Int32} (hS : LaS M l0)
    (h : WA X d kc ns m_X3_votesInAll 4 [some (vR l0), some (vI l1), some (vI (nI 0)), some (vI (nI 0))] [] M Q) :
    WA X d kc ns m_X3_votesInAll 0 [some (vR l0), some (vI l1), none, none] [] M Q := by
  refine x_iconst (tk K_X3_votesInAll 0 rfl) ic_0 ?_
  refine x_istore_n (L' := [some (vR _), some (vI _), some (vI _), none]) (tk K_X3_votesInAll 1 rfl) rfl rfl (Nat.le_of_ble_eq_true rfl) rfl ?_
  refine x_iconst (tk K_X3_votesInAll 2 rfl) ic_0 ?_
  refine x_istore_n (L' := [some (vR _), some (vI _), some (vI _), some (vI _)]) (tk K_X3_votesInAll 3 rfl) rfl rfl (Nat.le_of_ble_eq_true rfl) rfl ?_
  exact h

theorem b_X3_votesInAll_4 {X : Cx} {d kc ns : Nat} {M : Mem} {Q : Option AV → Mem → Prop} {l0 : Nat} {l1 : Int32} {l2 : Int32} {l3 : Int32} (hS : LaS M l0)
    (h : (((mI M l0 0) ≤ l3 → Q (some (vI l2)) M) ∧ (¬ (mI M l0 0) ≤ l3 → vp_in ((l3 * (nI 3)) + l1) 27 ∧ ∀ x1 : Int32, x1 = (l2 + (mI M (l0 + 2) (ix ((l3 * (nI 3)) + l1)))) → WA X d kc ns m_X3_votesInAll 4 [some (vR l0), some (vI l1), some (vI x1), some (vI (l3 + (nI 1)))] [] M Q))) :
    WA X d kc ns m_X3_votesInAll 4 [some (vR l0), some (vI l1), some (vI l2), some (vI l3)] [] M Q := by
  refine x_iload_n (tk K_X3_votesInAll 4 rfl) rfl rfl ?_
  refine x_aload_n (tk K_X3_votesInAll 5 rfl) rfl rfl ?_
  refine x_getI (tk K_X3_votesInAll 6 rfl) f_X3_28 rfl (LaS.o hS) ?_
  refine x_icmp_ge (t := 31) (tk K_X3_votesInAll 7 rfl) rfl (fun hc => ?_) (fun hc => ?_)
  · have h := h.1 hc
    refine x_iload_n (tk K_X3_votesInAll 21 rfl) rfl rfl ?_
    exact x_ireturn (tk K_X3_votesInAll 22 rfl) rfl rfl h
  · have h := h.2 hc
    refine x_iload_n (tk K_X3_votesInAll 8 rfl) rfl rfl ?_
    refine x_aload_n (tk K_X3_votesInAll 9 rfl) rfl rfl ?_
    refine x_getRc (tk K_X3_votesInAll 10 rfl) f_X3_52 rfl (LaS.o hS) (LaS.r5 hS) ?_
    refine x_iload_n (tk K_X3_votesInAll 11 rfl) rfl rfl ?_
    refine x_iconst (tk K_X3_votesInAll 12 rfl) ic_3 ?_
    refine x_imul (tk K_X3_votesInAll 13 rfl) ?_
    refine x_iload_n (tk K_X3_votesInAll 14 rfl) rfl rfl ?_
    refine x_iadd (tk K_X3_votesInAll 15 rfl) ?_
    have hi := h.1
    have h := h.2
    refine x_iald (tk K_X3_votesInAll 16 rfl) (LaS.k5 hS) hi ?_
    refine x_iadd (tk K_X3_votesInAll 17 rfl) ?_
    have h := h _ rfl
    refine x_istore_n (L' := [some (vR _), some (vI _), some (vI _), some (vI _)]) (tk K_X3_votesInAll 18 rfl) rfl rfl (Nat.le_of_ble_eq_true rfl) rfl ?_
    refine x_iincW (L' := [some (vR _), some (vI _), some (vI _), some (vI _)]) (tk K_X3_votesInAll 19 rfl) rfl ic_1 rfl (Nat.le_of_ble_eq_true rfl) rfl ?_
    refine x_goto (t := 4) (tk K_X3_votesInAll 20 rfl) rfl ?_
    exact h

theorem e_X3_votesInAll {X : Cx} {d kc ns : Nat} {M : Mem} {Q : Option AV → Mem → Prop} {a0 : Nat} {a1 : Int32} (h : WA X d kc ns m_X3_votesInAll 0 [some (vR a0), some (vI a1), none, none] [] M Q) : Cl X d kc ns m_X3_votesInAll [vR a0, vI a1] M Q := Cl.intro (k := 2) (by decide) rfl rfl h

-- TwoPencils$Land.split(IIII[I)Z
theorem b_X3_split_0 {X : Cx} {d kc ns : Nat} {M : Mem} {Q : Option AV → Mem → Prop} {l0 : Nat} {l1 : Int32} {l2 : Int32} {l3 : Int32} {l4 : Int32} {l5 : Nat} (hS : LaS M l0)
    (h : ((l1 < nI 0 → Q (some (vI (nI 0))) M) ∧ (¬ l1 < nI 0 → ((l1 < (shl (nI 1) (l2 * (mI M l0 0))) → WA X d kc ns m_X3_split 24 [some (vR l0), some (vI l1), some (vI l2), some (vI l3), some (vI l4), some (vR l5), some (vI (nI 0)), some (vI (nI 0)), none] [] M Q) ∧ (¬ l1 < (shl (nI 1) (l2 * (mI M l0 0))) → Q (some (vI (nI 0))) M))))) :
    WA X d kc ns m_X3_split 0 [some (vR l0), some (vI l1), some (vI l2), some (vI l3), some (vI l4), some (vR l5), none, none, none] [] M Q := by
  refine x_iload_n (tk K_X3_split 0 rfl) rfl rfl ?_
  refine x_if_lt (t := 16) (tk K_X3_split 1 rfl) rfl (fun hc => ?_) (fun hc => ?_)
  · have h := h.1 hc
    refine x_iconst (tk K_X3_split 10 rfl) ic_0 ?_
    exact x_ireturn (tk K_X3_split 11 rfl) rfl (fitZ (Or.inl rfl)).1 h
  · have h := h.2 hc
    refine x_iload_n (tk K_X3_split 2 rfl) rfl rfl ?_
    refine x_iconst (tk K_X3_split 3 rfl) ic_1 ?_
    refine x_iload_n (tk K_X3_split 4 rfl) rfl rfl ?_
    refine x_aload_n (tk K_X3_split 5 rfl) rfl rfl ?_
    refine x_getI (tk K_X3_split 6 rfl) f_X3_28 rfl (LaS.o hS) ?_
    refine x_imul (tk K_X3_split 7 rfl) ?_
    refine x_ishl (tk K_X3_split 8 rfl) ?_
    refine x_icmp_lt (t := 18) (tk K_X3_split 9 rfl) rfl (fun hc => ?_) (fun hc => ?_)
    · have h := h.1 hc
      refine x_iconst (tk K_X3_split 12 rfl) ic_0 ?_
      refine x_istore (L' := [some (vR _), some (vI _), some (vI _), some (vI _), some (vI _), some (vR _), some (vI _), none, none]) (tk K_X3_split 13 rfl) rfl (Nat.le_of_ble_eq_true rfl) rfl ?_
      refine x_iconst (tk K_X3_split 14 rfl) ic_0 ?_
      refine x_istore (L' := [some (vR _), some (vI _), some (vI _), some (vI _), some (vI _), some (vR _), some (vI _), some (vI _), none]) (tk K_X3_split 15 rfl) rfl (Nat.le_of_ble_eq_true rfl) rfl ?_
      exact h
    · have h := h.2 hc
      refine x_iconst (tk K_X3_split 10 rfl) ic_0 ?_
      exact x_ireturn (tk K_X3_split 11 rfl) rfl (fitZ (Or.inl rfl)).1 h

theorem b_X3_split_24 {X : Cx} {d kc ns : Nat} {M : Mem} {Q : Option AV → Mem → Prop} {l0 : Nat} {l1 : Int32} {l2 : Int32} {l3 : Int32} {l4 : Int32} {l5 : Nat} {l6 : Int32} {l7 : Int32} (hS : LaS M l0)
    (h : (((mI M l0 0) ≤ l7 → ((¬ l6 = l4 → Q (some (vI (nI 0))) M) ∧ (l6 = l4 → Q (some (vI (nI 1))) M))) ∧ (¬ (mI M l0 0) ≤ l7 → ∀ x1 : Int32, x1 = ((shr l1 (l2 * (((mI M l0 0) - (nI 1)) - l7))) &&& ((shl (nI 1) l2) - (nI 1))) → ((¬ ((shr l3 l7) &&& (nI 1)) = nI 0 → ((l6 < x1 → Q (some (vI (nI 0))) M) ∧ (¬ l6 < x1 → ∃ n1 : Nat, isK M l5 14 n1 ∧ ((x1 < (nI n1) → ((¬ x1 = l6 → WA X d kc ns m_X3_split 103 [some (vR l0), some (vI l1), some (vI l2), some (vI l3), some (vI l4), some (vR l5), some (vI l6), some (vI l7), some (vI x1)] [] M Q) ∧ (x1 = l6 → vp_in x1 n1 ∧ ∀ M1 : Mem, M1 = sI M l5 (ix x1) (nI 0) → WA X d kc ns m_X3_split 103 [some (vR l0), some (vI l1), some (vI l2), some (vI l3), some (vI l4), some (vR l5), some (vI (l6 + (nI 1))), some (vI l7), some (vI x1)] [] M1 Q))) ∧ (¬ x1 < (nI n1) → Q (some (vI (nI 0))) M))))) ∧ (((shr l3 l7) &&& (nI 1)) = nI 0 → ((x1 = nI 0 → WA X d kc ns m_X3_split 24 [some (vR l0), some (vI l1), some (vI l2), some (vI l3), some (vI l4), some (vR l5), some (vI l6), some (vI (l7 + (nI 1))), none] [] M Q) ∧ (¬ x1 = nI 0 → Q (some (vI (nI 0))) M))))))) :
    WA X d kc ns m_X3_split 24 [some (vR l0), some (vI l1), some (vI l2), some (vI l3), some (vI l4), some (vR l5), some (vI l6), some (vI l7), none] [] M Q := by
  refine x_iload (tk K_X3_split 16 rfl) rfl ?_
  refine x_aload_n (tk K_X3_split 17 rfl) rfl rfl ?_
  refine x_getI (tk K_X3_split 18 rfl) f_X3_28 rfl (LaS.o hS) ?_
  refine x_icmp_ge (t := 121) (tk K_X3_split 19 rfl) rfl (fun hc => ?_) (fun hc => ?_)
  · have h := h.1 hc
    refine x_iload (tk K_X3_split 75 rfl) rfl ?_
    refine x_iload (tk K_X3_split 76 rfl) rfl ?_
    refine x_icmp_ne (t := 132) (tk K_X3_split 77 rfl) rfl (fun hc => ?_) (fun hc => ?_)
    · have h := h.1 hc
      refine x_iconst (tk K_X3_split 80 rfl) ic_0 ?_
      exact x_ireturn (tk K_X3_split 81 rfl) rfl (fitZ (Or.inl rfl)).1 h
    · have h := h.2 hc
      refine x_iconst (tk K_X3_split 78 rfl) ic_1 ?_
      refine x_goto (t := 133) (tk K_X3_split 79 rfl) rfl ?_
      exact x_ireturn (tk K_X3_split 81 rfl) rfl (fitZ (Or.inr rfl)).1 h
  · have h := h.2 hc
    refine x_iload_n (tk K_X3_split 20 rfl) rfl rfl ?_
    refine x_iload_n (tk K_X3_split 21 rfl) rfl rfl ?_
    refine x_aload_n (tk K_X3_split 22 rfl) rfl rfl ?_
    refine x_getI (tk K_X3_split 23 rfl) f_X3_28 rfl (LaS.o hS) ?_
    refine x_iconst (tk K_X3_split 24 rfl) ic_1 ?_
    refine x_isub (tk K_X3_split 25 rfl) ?_
    refine x_iload (tk K_X3_split 26 rfl) rfl ?_
    refine x_isub (tk K_X3_split 27 rfl) ?_
    refine x_imul (tk K_X3_split 28 rfl) ?_
    refine x_ishr (tk K_X3_split 29 rfl) ?_
    refine x_iconst (tk K_X3_split 30 rfl) ic_1 ?_
    refine x_iload_n (tk K_X3_split 31 rfl) rfl rfl ?_
    refine x_ishl (tk K_X3_split 32 rfl) ?_
    refine x_iconst (tk K_X3_split 33 rfl) ic_1 ?_
    refine x_isub (tk K_X3_split 34 rfl) ?_
    refine x_iand (tk K_X3_split 35 rfl) ?_
    have h := h _ rfl
    refine x_istore (L' := [some (vR _), some (vI _), some (vI _), some (vI _), some (vI _), some (vR _), some (vI _), some (vI _), some (vI _)]) (tk K_X3_split 36 rfl) rfl (Nat.le_of_ble_eq_true rfl) rfl ?_
    refine x_iload_n (tk K_X3_split 37 rfl) rfl rfl ?_
    refine x_iload (tk K_X3_split 38 rfl) rfl ?_
    refine x_ishr (tk K_X3_split 39 rfl) ?_
    refine x_iconst (tk K_X3_split 40 rfl) ic_1 ?_
    refine x_iand (tk K_X3_split 41 rfl) ?_
    refine x_if_ne (t := 70) (tk K_X3_split 42 rfl) rfl (fun hc => ?_) (fun hc => ?_)
    · have h := h.1 hc
      refine x_iload (tk K_X3_split 47 rfl) rfl ?_
      refine x_iload (tk K_X3_split 48 rfl) rfl ?_
      refine x_icmp_gt (t := 85) (tk K_X3_split 49 rfl) rfl (fun hc => ?_) (fun hc => ?_)
      · have h := h.1 hc
        refine x_iconst (tk K_X3_split 54 rfl) ic_0 ?_
        exact x_ireturn (tk K_X3_split 55 rfl) rfl (fitZ (Or.inl rfl)).1 h
      · have h := h.2 hc
        refine x_iload (tk K_X3_split 50 rfl) rfl ?_
        refine x_aload (tk K_X3_split 51 rfl) rfl ?_
        obtain ⟨n1, hA_n1, h⟩ := h
        refine x_alen (tk K_X3_split 52 rfl) hA_n1 rfl ?_
        refine x_icmp_lt (t := 87) (tk K_X3_split 53 rfl) rfl (fun hc => ?_) (fun hc => ?_)
        · have h := h.1 hc
          refine x_iload (tk K_X3_split 56 rfl) rfl ?_
          refine x_iload (tk K_X3_split 57 rfl) rfl ?_
          refine x_icmp_ne (t := 103) (tk K_X3_split 58 rfl) rfl (fun hc => ?_) (fun hc => ?_)
          · have h := h.1 hc
            exact h
          · have h := h.2 hc
            refine x_aload (tk K_X3_split 59 rfl) rfl ?_
            refine x_iload (tk K_X3_split 60 rfl) rfl ?_
            refine x_iconst (tk K_X3_split 61 rfl) ic_0 ?_
            have hi := h.1
            have h := h.2
            have h := h _ rfl
            refine x_iast (tk K_X3_split 62 rfl) hA_n1 hi ?_
            refine x_iincW (L' := [some (vR _), some (vI _), some (vI _), some (vI _), some (vI _), some (vR _), some (vI _), some (vI _), some (vI _)]) (tk K_X3_split 63 rfl) rfl ic_1 rfl (Nat.le_of_ble_eq_true rfl) rfl ?_
            exact h
        · have h := h.2 hc
          refine x_iconst (tk K_X3_split 54 rfl) ic_0 ?_
          exact x_ireturn (tk K_X3_split 55 rfl) rfl (fitZ (Or.inl rfl)).1 h
    · have h := h.2 hc
      refine x_iload (tk K_X3_split 43 rfl) rfl ?_
      refine x_if_eq (t := 115) (tk K_X3_split 44 rfl) rfl (fun hc => ?_) (fun hc => ?_)
      · have h := h.1 hc
        refine x_iincW (L' := [some (vR _), some (vI _), some (vI _), some (vI _), some (vI _), some (vR _), some (vI _), some (vI _), some (vI _)]) (tk K_X3_split 73 rfl) rfl ic_1 rfl (Nat.le_of_ble_eq_true rfl) rfl ?_
        refine x_goto (t := 24) (tk K_X3_split 74 rfl) rfl ?_
        refine x_msk [true, true, true, true, true, true, true, true, false] ?_
        exact h
      · have h := h.2 hc
        refine x_iconst (tk K_X3_split 45 rfl) ic_0 ?_
        exact x_ireturn (tk K_X3_split 46 rfl) rfl (fitZ (Or.inl rfl)).1 h

theorem b_X3_split_103 {X : Cx} {d kc ns : Nat} {M : Mem} {Q : Option AV → Mem → Prop} {l0 : Nat} {l1 : Int32} {l2 : Int32} {l3 : Int32} {l4 : Int32} {l5 : Nat} {l6 : Int32} {l7 : Int32} {l8 : Int32} (hS : LaS M l0)
    (h : ∃ n1 : Nat, isK M l5 14 n1 ∧ vp_in l8 n1 ∧ vp_in l8 n1 ∧ ∀ M1 : Mem, M1 = sI M l5 (ix l8) ((mI M l5 (ix l8)) ||| (shl (nI 1) l7)) → WA X d kc ns m_X3_split 24 [some (vR l0), some (vI l1), some (vI l2), some (vI l3), some (vI l4), some (vR l5), some (vI l6), some (vI (l7 + (nI 1))), none] [] M1 Q) :
    WA X d kc ns m_X3_split 103 [some (vR l0), some (vI l1), some (vI l2), some (vI l3), some (vI l4), some (vR l5), some (vI l6), some (vI l7), some (vI l8)] [] M Q := by
  refine x_aload (tk K_X3_split 64 rfl) rfl ?_
  refine x_iload (tk K_X3_split 65 rfl) rfl ?_
  refine x_dup2 (tk K_X3_split 66 rfl) rfl rfl ?_
  obtain ⟨n1, hA_n1, h⟩ := h
  have hi := h.1
  have h := h.2
  refine x_iald (tk K_X3_split 67 rfl) hA_n1 hi ?_
  refine x_iconst (tk K_X3_split 68 rfl) ic_1 ?_
  refine x_iload (tk K_X3_split 69 rfl) rfl ?_
  refine x_ishl (tk K_X3_split 70 rfl) ?_
  refine x_ior (tk K_X3_split 71 rfl) ?_
  have hi := h.1
  have h := h.2
  have h := h _ rfl
  refine x_iast (tk K_X3_split 72 rfl) hA_n1 hi ?_
  refine x_iincW (L' := [some (vR _), some (vI _), some (vI _), some (vI _), some (vI _), some (vR _), some (vI _), some (vI _), some (vI _)]) (tk K_X3_split 73 rfl) rfl ic_1 rfl (Nat.le_of_ble_eq_true rfl) rfl ?_
  refine x_goto (t := 24) (tk K_X3_split 74 rfl) rfl ?_
  refine x_msk [true, true, true, true, true, true, true, true, false] ?_
  exact h

theorem e_X3_split {X : Cx} {d kc ns : Nat} {M : Mem} {Q : Option AV → Mem → Prop} {a0 : Nat} {a1 : Int32} {a2 : Int32} {a3 : Int32} {a4 : Int32} {a5 : Nat} (h : WA X d kc ns m_X3_split 0 [some (vR a0), some (vI a1), some (vI a2), some (vI a3), some (vI a4), some (vR a5), none, none, none] [] M Q) : Cl X d kc ns m_X3_split [vR a0, vI a1, vI a2, vI a3, vI a4, vR a5] M Q := Cl.intro (k := 3) (by decide) rfl rfl h

-- TwoPencils$Land.isNumbered(I[I)Z
theorem b_X3_isNumbered_0 {X : Cx} {d kc ns : Nat} {M : Mem} {Q : Option AV → Mem → Prop} {l0 : Nat} {l1 : Int32} {l2 : Nat} (hS : LaS M l0) (hd : 1 ≤ d)
    (h : Cl X (d - 1) 0 0 m_X3_split [vR l0, vI l1, vI (nI 2), vI (mI M l0 4), vI (mI M l0 1), vR l2] M (fun r M1 => ∃ x1 : Int32, r = some (vI x1) ∧ Ext M M1 ∧ (isB x1 ∧ Q (some (vI x1)) M1))) :
    WA X d kc ns m_X3_isNumbered 0 [some (vR l0), some (vI l1), some (vR l2)] [] M Q := by
  refine x_aload_n (tk K_X3_isNumbered 0 rfl) rfl rfl ?_
  refine x_iload_n (tk K_X3_isNumbered 1 rfl) rfl rfl ?_
  refine x_iconst (tk K_X3_isNumbered 2 rfl) ic_2 ?_
  refine x_aload_n (tk K_X3_isNumbered 3 rfl) rfl rfl ?_
  refine x_getI (tk K_X3_isNumbered 4 rfl) f_X3_41 rfl (LaS.o hS) ?_
  refine x_aload_n (tk K_X3_isNumbered 5 rfl) rfl rfl ?_
  refine x_getI (tk K_X3_isNumbered 6 rfl) f_X3_32 rfl (LaS.o hS) ?_
  refine x_aload_n (tk K_X3_isNumbered 7 rfl) rfl rfl ?_
  refine x_callV0 (As := [vI _, vI _, vI _, vI _, vR _]) (S := []) (tk K_X3_isNumbered 8 rfl) mk_X3_112 mo_X3_split (LaS.o hS) rfl rfl (Nat.le_of_ble_eq_true rfl) hd h (fun r M1 hq => ?_)
  obtain ⟨x1, rfl, hE, h⟩ := hq
  have hT0 := LaS.ext hS hE
  exact x_ireturn (tk K_X3_isNumbered 9 rfl) rfl (fitZ h.1).1 h.2

theorem e_X3_isNumbered {X : Cx} {d kc ns : Nat} {M : Mem} {Q : Option AV → Mem → Prop} {a0 : Nat} {a1 : Int32} {a2 : Nat} (h : WA X d kc ns m_X3_isNumbered 0 [some (vR a0), some (vI a1), some (vR a2)] [] M Q) : Cl X d kc ns m_X3_isNumbered [vR a0, vI a1, vR a2] M Q := Cl.intro (k := 0) (by decide) rfl rfl h

-- TwoPencils$Land.isLawfulCut(III[I)Z
theorem b_X3_isLawfulCut_0 {X : Cx} {d kc ns : Nat} {M : Mem} {Q : Option AV → Mem → Prop} {l0 : Nat} {l1 : Int32} {l2 : Int32} {l3 : Int32} {l4 : Nat} (hS : LaS M l0) (hd : 1 ≤ d)
    (h : Cl X (d - 1) 0 0 m_X3_split [vR l0, vI l1, vI (nI 2), vI l2, vI l3, vR l4] M (fun r M1 => ∃ x1 : Int32, r = some (vI x1) ∧ Ext M M1 ∧ ((¬ x1 = nI 0 → WA X d kc ns m_X3_isLawfulCut 18 [some (vR l0), none, none, some (vI l3), some (vR l4), some (vI (nI 0))] [] M1 Q) ∧ (x1 = nI 0 → Q (some (vI (nI 0))) M1)))) :
    WA X d kc ns m_X3_isLawfulCut 0 [some (vR l0), some (vI l1), some (vI l2), some (vI l3), some (vR l4), none] [] M Q := by
  refine x_aload_n (tk K_X3_isLawfulCut 0 rfl) rfl rfl ?_
  refine x_iload_n (tk K_X3_isLawfulCut 1 rfl) rfl rfl ?_
  refine x_iconst (tk K_X3_isLawfulCut 2 rfl) ic_2 ?_
  refine x_iload_n (tk K_X3_isLawfulCut 3 rfl) rfl rfl ?_
  refine x_iload_n (tk K_X3_isLawfulCut 4 rfl) rfl rfl ?_
  refine x_aload (tk K_X3_isLawfulCut 5 rfl) rfl ?_
  refine x_callV0 (As := [vI _, vI _, vI _, vI _, vR _]) (S := []) (tk K_X3_isLawfulCut 6 rfl) mk_X3_112 mo_X3_split (LaS.o hS) rfl rfl (Nat.le_of_ble_eq_true rfl) hd h (fun r M1 hq => ?_)
  obtain ⟨x1, rfl, hE, h⟩ := hq
  have hT0 := LaS.ext hS hE
  refine x_if_ne (t := 15) (tk K_X3_isLawfulCut 7 rfl) rfl (fun hc => ?_) (fun hc => ?_)
  · have h := h.1 hc
    refine x_iconst (tk K_X3_isLawfulCut 10 rfl) ic_0 ?_
    refine x_istore (L' := [some (vR _), some (vI _), some (vI _), some (vI _), some (vR _), some (vI _)]) (tk K_X3_isLawfulCut 11 rfl) rfl (Nat.le_of_ble_eq_true rfl) rfl ?_
    refine x_msk [true, false, false, true, true, true] ?_
    exact h
  · have h := h.2 hc
    refine x_iconst (tk K_X3_isLawfulCut 8 rfl) ic_0 ?_
    exact x_ireturn (tk K_X3_isLawfulCut 9 rfl) rfl (fitZ (Or.inl rfl)).1 h

theorem b_X3_isLawfulCut_18 {X : Cx} {d kc ns : Nat} {M : Mem} {Q : Option AV → Mem → Prop} {l0 : Nat} {l3 : Int32} {l4 : Nat} {l5 : Int32} (hS : LaS M l0) (hd : 1 ≤ d)
    (h : ((l3 ≤ l5 → Q (some (vI (nI 1))) M) ∧ (¬ l3 ≤ l5 → ∃ n1 : Nat, isK M l4 14 n1 ∧ vp_in l5 n1 ∧ Cl X (d - 1) 0 0 m_X3_isLawful [vR l0, vI (mI M l4 (ix l5))] M (fun r M1 => ∃ x1 : Int32, r = some (vI x1) ∧ Ext M M1 ∧ ((¬ x1 = nI 0 → WA X d kc ns m_X3_isLawfulCut 18 [some (vR l0), none, none, some (vI l3), some (vR l4), some (vI (l5 + (nI 1)))] [] M1 Q) ∧ (x1 = nI 0 → Q (some (vI (nI 0))) M1)))))) :
    WA X d kc ns m_X3_isLawfulCut 18 [some (vR l0), none, none, some (vI l3), some (vR l4), some (vI l5)] [] M Q := by
  refine x_iload (tk K_X3_isLawfulCut 12 rfl) rfl ?_
  refine x_iload_n (tk K_X3_isLawfulCut 13 rfl) rfl rfl ?_
  refine x_icmp_ge (t := 44) (tk K_X3_isLawfulCut 14 rfl) rfl (fun hc => ?_) (fun hc => ?_)
  · have h := h.1 hc
    refine x_iconst (tk K_X3_isLawfulCut 25 rfl) ic_1 ?_
    exact x_ireturn (tk K_X3_isLawfulCut 26 rfl) rfl (fitZ (Or.inr rfl)).1 h
  · have h := h.2 hc
    refine x_aload_n (tk K_X3_isLawfulCut 15 rfl) rfl rfl ?_
    refine x_aload (tk K_X3_isLawfulCut 16 rfl) rfl ?_
    refine x_iload (tk K_X3_isLawfulCut 17 rfl) rfl ?_
    obtain ⟨n1, hA_n1, h⟩ := h
    have hi := h.1
    have h := h.2
    refine x_iald (tk K_X3_isLawfulCut 18 rfl) hA_n1 hi ?_
    refine x_callV0 (As := [vI _]) (S := []) (tk K_X3_isLawfulCut 19 rfl) mk_X3_116 mo_X3_isLawful (LaS.o hS) rfl rfl (Nat.le_of_ble_eq_true rfl) hd h (fun r M1 hq => ?_)
    obtain ⟨x1, rfl, hE, h⟩ := hq
    have hT0 := LaS.ext hS hE
    have hT1 := hE.1 _ _ _ hA_n1
    refine x_if_ne (t := 38) (tk K_X3_isLawfulCut 20 rfl) rfl (fun hc => ?_) (fun hc => ?_)
    · have h := h.1 hc
      refine x_iincW (L' := [some (vR _), none, none, some (vI _), some (vR _), some (vI _)]) (tk K_X3_isLawfulCut 23 rfl) rfl ic_1 rfl (Nat.le_of_ble_eq_true rfl) rfl ?_
      refine x_goto (t := 18) (tk K_X3_isLawfulCut 24 rfl) rfl ?_
      exact h
    · have h := h.2 hc
      refine x_iconst (tk K_X3_isLawfulCut 21 rfl) ic_0 ?_
      exact x_ireturn (tk K_X3_isLawfulCut 22 rfl) rfl (fitZ (Or.inl rfl)).1 h

theorem e_X3_isLawfulCut {X : Cx} {d kc ns : Nat} {M : Mem} {Q : Option AV → Mem → Prop} {a0 : Nat} {a1 : Int32} {a2 : Int32} {a3 : Int32} {a4 : Nat} (h : WA X d kc ns m_X3_isLawfulCut 0 [some (vR a0), some (vI a1), some (vI a2), some (vI a3), some (vR a4), none] [] M Q) : Cl X d kc ns m_X3_isLawfulCut [vR a0, vI a1, vI a2, vI a3, vR a4] M Q := Cl.intro (k := 1) (by decide) rfl rfl h

-- TwoPencils$Land.judged(I[I)I
theorem b_X3_judged_0 {X : Cx} {d kc ns : Nat} {M : Mem} {Q : Option AV → Mem → Prop} {l0 : Nat} {l1 : Int32} {l2 : Nat} (hS : LaS M l0) (hd : 1 ≤ d)
    (h : ((l1 < nI 0 → Q (some (vI (-1))) M) ∧ (¬ l1 < nI 0 → ((l1 < (shl (nI 1) ((nI 2) * (mI M l0 0))) → Cl X (d - 1) 0 0 m_X3_isNumbered [vR l0, vI l1, vR l2] M (fun r M1 => ∃ x1 : Int32, r = some (vI x1) ∧ Ext M M1 ∧ ((¬ x1 = nI 0 → WA X d kc ns m_X3_judged 31 [some (vR l0), none, some (vR l2), some (vI (nI 0)), none] [] M1 Q) ∧ (x1 = nI 0 → Q (some (vI (nI 1))) M1)))) ∧ (¬ l1 < (shl (nI 1) ((nI 2) * (mI M l0 0))) → Q (some (vI (-1))) M))))) :
    WA X d kc ns m_X3_judged 0 [some (vR l0), some (vI l1), some (vR l2), none, none] [] M Q := by
  refine x_iload_n (tk K_X3_judged 0 rfl) rfl rfl ?_
  refine x_if_lt (t := 16) (tk K_X3_judged 1 rfl) rfl (fun hc => ?_) (fun hc => ?_)
  · have h := h.1 hc
    refine x_iconst (tk K_X3_judged 10 rfl) ic_m1 ?_
    exact x_ireturn (tk K_X3_judged 11 rfl) rfl rfl h
  · have h := h.2 hc
    refine x_iload_n (tk K_X3_judged 2 rfl) rfl rfl ?_
    refine x_iconst (tk K_X3_judged 3 rfl) ic_1 ?_
    refine x_iconst (tk K_X3_judged 4 rfl) ic_2 ?_
    refine x_aload_n (tk K_X3_judged 5 rfl) rfl rfl ?_
    refine x_getI (tk K_X3_judged 6 rfl) f_X3_28 rfl (LaS.o hS) ?_
    refine x_imul (tk K_X3_judged 7 rfl) ?_
    refine x_ishl (tk K_X3_judged 8 rfl) ?_
    refine x_icmp_lt (t := 18) (tk K_X3_judged 9 rfl) rfl (fun hc => ?_) (fun hc => ?_)
    · have h := h.1 hc
      refine x_aload_n (tk K_X3_judged 12 rfl) rfl rfl ?_
      refine x_iload_n (tk K_X3_judged 13 rfl) rfl rfl ?_
      refine x_aload_n (tk K_X3_judged 14 rfl) rfl rfl ?_
      refine x_callV0 (As := [vI _, vR _]) (S := []) (tk K_X3_judged 15 rfl) mk_X3_119 mo_X3_isNumbered (LaS.o hS) rfl rfl (Nat.le_of_ble_eq_true rfl) hd h (fun r M1 hq => ?_)
      obtain ⟨x1, rfl, hE, h⟩ := hq
      have hT0 := LaS.ext hS hE
      refine x_if_ne (t := 29) (tk K_X3_judged 16 rfl) rfl (fun hc => ?_) (fun hc => ?_)
      · have h := h.1 hc
        refine x_iconst (tk K_X3_judged 19 rfl) ic_0 ?_
        refine x_istore_n (L' := [some (vR _), some (vI _), some (vR _), some (vI _), none]) (tk K_X3_judged 20 rfl) rfl rfl (Nat.le_of_ble_eq_true rfl) rfl ?_
        refine x_msk [true, false, true, true, false] ?_
        exact h
      · have h := h.2 hc
        refine x_iconst (tk K_X3_judged 17 rfl) ic_1 ?_
        exact x_ireturn (tk K_X3_judged 18 rfl) rfl rfl h
    · have h := h.2 hc
      refine x_iconst (tk K_X3_judged 10 rfl) ic_m1 ?_
      exact x_ireturn (tk K_X3_judged 11 rfl) rfl rfl h

theorem b_X3_judged_31 {X : Cx} {d kc ns : Nat} {M : Mem} {Q : Option AV → Mem → Prop} {l0 : Nat} {l2 : Nat} {l3 : Int32} (hS : LaS M l0) (hd : 1 ≤ d)
    (h : (((mI M l0 1) ≤ l3 → Q (some (vI (nI 0))) M) ∧ (¬ (mI M l0 1) ≤ l3 → ∃ n1 : Nat, isK M l2 14 n1 ∧ vp_in l3 n1 ∧ Cl X (d - 1) 0 0 m_X3_flawOf [vR l0, vI (mI M l2 (ix l3))] M (fun r M1 => ∃ x1 : Int32, r = some (vI x1) ∧ Ext M M1 ∧ ((x1 = nI 0 → WA X d kc ns m_X3_judged 31 [some (vR l0), none, some (vR l2), some (vI (l3 + (nI 1))), none] [] M1 Q) ∧ (¬ x1 = nI 0 → Q (some (vI x1)) M1)))))) :
    WA X d kc ns m_X3_judged 31 [some (vR l0), none, some (vR l2), some (vI l3), none] [] M Q := by
  refine x_iload_n (tk K_X3_judged 21 rfl) rfl rfl ?_
  refine x_aload_n (tk K_X3_judged 22 rfl) rfl rfl ?_
  refine x_getI (tk K_X3_judged 23 rfl) f_X3_32 rfl (LaS.o hS) ?_
  refine x_icmp_ge (t := 62) (tk K_X3_judged 24 rfl) rfl (fun hc => ?_) (fun hc => ?_)
  · have h := h.1 hc
    refine x_iconst (tk K_X3_judged 37 rfl) ic_0 ?_
    exact x_ireturn (tk K_X3_judged 38 rfl) rfl rfl h
  · have h := h.2 hc
    refine x_aload_n (tk K_X3_judged 25 rfl) rfl rfl ?_
    refine x_aload_n (tk K_X3_judged 26 rfl) rfl rfl ?_
    refine x_iload_n (tk K_X3_judged 27 rfl) rfl rfl ?_
    obtain ⟨n1, hA_n1, h⟩ := h
    have hi := h.1
    have h := h.2
    refine x_iald (tk K_X3_judged 28 rfl) hA_n1 hi ?_
    refine x_callV0 (As := [vI _]) (S := []) (tk K_X3_judged 29 rfl) mk_X3_99 mo_X3_flawOf (LaS.o hS) rfl rfl (Nat.le_of_ble_eq_true rfl) hd h (fun r M1 hq => ?_)
    obtain ⟨x1, rfl, hE, h⟩ := hq
    have hT0 := LaS.ext hS hE
    have hT1 := hE.1 _ _ _ hA_n1
    refine x_istore (L' := [some (vR _), none, some (vR _), some (vI _), some (vI _)]) (tk K_X3_judged 30 rfl) rfl (Nat.le_of_ble_eq_true rfl) rfl ?_
    refine x_iload (tk K_X3_judged 31 rfl) rfl ?_
    refine x_if_eq (t := 56) (tk K_X3_judged 32 rfl) rfl (fun hc => ?_) (fun hc => ?_)
    · have h := h.1 hc
      refine x_iincW (L' := [some (vR _), none, some (vR _), some (vI _), some (vI _)]) (tk K_X3_judged 35 rfl) rfl ic_1 rfl (Nat.le_of_ble_eq_true rfl) rfl ?_
      refine x_goto (t := 31) (tk K_X3_judged 36 rfl) rfl ?_
      refine x_msk [true, false, true, true, false] ?_
      exact h
    · have h := h.2 hc
      refine x_iload (tk K_X3_judged 33 rfl) rfl ?_
      exact x_ireturn (tk K_X3_judged 34 rfl) rfl rfl h

theorem e_X3_judged {X : Cx} {d kc ns : Nat} {M : Mem} {Q : Option AV → Mem → Prop} {a0 : Nat} {a1 : Int32} {a2 : Nat} (h : WA X d kc ns m_X3_judged 0 [some (vR a0), some (vI a1), some (vR a2), none, none] [] M Q) : Cl X d kc ns m_X3_judged [vR a0, vI a1, vR a2] M Q := Cl.intro (k := 2) (by decide) rfl rfl h

-- TwoPencils$Land.numberOf([II)I
theorem b_X3_numberOf_0 {X : Cx} {d kc ns : Nat} {M : Mem} {Q : Option AV → Mem → Prop} {l0 : Nat} {l1 : Nat} {l2 : Int32} (hS : LaS M l0)
    (h : WA X d kc ns m_X3_numberOf 5 [some (vR l0), some (vR l1), some (vI l2), some (vI (nI 0)), some (vI (nI 1)), none] [] M Q) :
    WA X d kc ns m_X3_numberOf 0 [some (vR l0), some (vR l1), some (vI l2), none, none, none] [] M Q := by
  refine x_iconst (tk K_X3_numberOf 0 rfl) ic_0 ?_
  refine x_istore_n (L' := [some (vR _), some (vR _), some (vI _), some (vI _), none, none]) (tk K_X3_numberOf 1 rfl) rfl rfl (Nat.le_of_ble_eq_true rfl) rfl ?_
  refine x_iconst (tk K_X3_numberOf 2 rfl) ic_1 ?_
  refine x_istore (L' := [some (vR _), some (vR _), some (vI _), some (vI _), some (vI _), none]) (tk K_X3_numberOf 3 rfl) rfl (Nat.le_of_ble_eq_true rfl) rfl ?_
  exact h

theorem b_X3_numberOf_5 {X : Cx} {d kc ns : Nat} {M : Mem} {Q : Option AV → Mem → Prop} {l0 : Nat} {l1 : Nat} {l2 : Int32} {l3 : Int32} {l4 : Int32} (hS : LaS M l0)
    (h : ((l2 ≤ l4 → Q (some (vI l3)) M) ∧ (¬ l2 ≤ l4 → WA X d kc ns m_X3_numberOf 14 [some (vR l0), some (vR l1), some (vI l2), some (vI l3), some (vI l4), some (vI (nI 0))] [] M Q))) :
    WA X d kc ns m_X3_numberOf 5 [some (vR l0), some (vR l1), some (vI l2), some (vI l3), some (vI l4), none] [] M Q := by
  refine x_iload (tk K_X3_numberOf 4 rfl) rfl ?_
  refine x_iload_n (tk K_X3_numberOf 5 rfl) rfl rfl ?_
  refine x_icmp_ge (t := 64) (tk K_X3_numberOf 6 rfl) rfl (fun hc => ?_) (fun hc => ?_)
  · have h := h.1 hc
    refine x_iload_n (tk K_X3_numberOf 38 rfl) rfl rfl ?_
    exact x_ireturn (tk K_X3_numberOf 39 rfl) rfl rfl h
  · have h := h.2 hc
    refine x_iconst (tk K_X3_numberOf 7 rfl) ic_0 ?_
    refine x_istore (L' := [some (vR _), some (vR _), some (vI _), some (vI _), some (vI _), some (vI _)]) (tk K_X3_numberOf 8 rfl) rfl (Nat.le_of_ble_eq_true rfl) rfl ?_
    exact h

theorem b_X3_numberOf_14 {X : Cx} {d kc ns : Nat} {M : Mem} {Q : Option AV → Mem → Prop} {l0 : Nat} {l1 : Nat} {l2 : Int32} {l3 : Int32} {l4 : Int32} {l5 : Int32} (hS : LaS M l0)
    (h : (((mI M l0 0) ≤ l5 → WA X d kc ns m_X3_numberOf 5 [some (vR l0), some (vR l1), some (vI l2), some (vI l3), some (vI (l4 + (nI 1))), none] [] M Q) ∧ (¬ (mI M l0 0) ≤ l5 → ∃ n1 : Nat, isK M l1 14 n1 ∧ vp_in l4 n1 ∧ ((((shr (mI M l1 (ix l4)) l5) &&& (nI 1)) = nI 0 → WA X d kc ns m_X3_numberOf 14 [some (vR l0), some (vR l1), some (vI l2), some (vI l3), some (vI l4), some (vI (l5 + (nI 1)))] [] M Q) ∧ (¬ ((shr (mI M l1 (ix l4)) l5) &&& (nI 1)) = nI 0 → ∀ x1 : Int32, x1 = (l3 + (shl l4 ((nI 2) * (((mI M l0 0) - (nI 1)) - l5)))) → WA X d kc ns m_X3_numberOf 14 [some (vR l0), some (vR l1), some (vI l2), some (vI x1), some (vI l4), some (vI (l5 + (nI 1)))] [] M Q))))) :
    WA X d kc ns m_X3_numberOf 14 [some (vR l0), some (vR l1), some (vI l2), some (vI l3), some (vI l4), some (vI l5)] [] M Q := by
  refine x_iload (tk K_X3_numberOf 9 rfl) rfl ?_
  refine x_aload_n (tk K_X3_numberOf 10 rfl) rfl rfl ?_
  refine x_getI (tk K_X3_numberOf 11 rfl) f_X3_28 rfl (LaS.o hS) ?_
  refine x_icmp_ge (t := 58) (tk K_X3_numberOf 12 rfl) rfl (fun hc => ?_) (fun hc => ?_)
  · have h := h.1 hc
    refine x_iincW (L' := [some (vR _), some (vR _), some (vI _), some (vI _), some (vI _), some (vI _)]) (tk K_X3_numberOf 36 rfl) rfl ic_1 rfl (Nat.le_of_ble_eq_true rfl) rfl ?_
    refine x_goto (t := 5) (tk K_X3_numberOf 37 rfl) rfl ?_
    refine x_msk [true, true, true, true, true, false] ?_
    exact h
  · have h := h.2 hc
    refine x_aload_n (tk K_X3_numberOf 13 rfl) rfl rfl ?_
    refine x_iload (tk K_X3_numberOf 14 rfl) rfl ?_
    obtain ⟨n1, hA_n1, h⟩ := h
    have hi := h.1
    have h := h.2
    refine x_iald (tk K_X3_numberOf 15 rfl) hA_n1 hi ?_
    refine x_iload (tk K_X3_numberOf 16 rfl) rfl ?_
    refine x_ishr (tk K_X3_numberOf 17 rfl) ?_
    refine x_iconst (tk K_X3_numberOf 18 rfl) ic_1 ?_
    refine x_iand (tk K_X3_numberOf 19 rfl) ?_
    refine x_if_eq (t := 52) (tk K_X3_numberOf 20 rfl) rfl (fun hc => ?_) (fun hc => ?_)
    · have h := h.1 hc
      refine x_iincW (L' := [some (vR _), some (vR _), some (vI _), some (vI _), some (vI _), some (vI _)]) (tk K_X3_numberOf 34 rfl) rfl ic_1 rfl (Nat.le_of_ble_eq_true rfl) rfl ?_
      refine x_goto (t := 14) (tk K_X3_numberOf 35 rfl) rfl ?_
      exact h
    · have h := h.2 hc
      refine x_iload_n (tk K_X3_numberOf 21 rfl) rfl rfl ?_
      refine x_iload (tk K_X3_numberOf 22 rfl) rfl ?_
      refine x_iconst (tk K_X3_numberOf 23 rfl) ic_2 ?_
      refine x_aload_n (tk K_X3_numberOf 24 rfl) rfl rfl ?_
      refine x_getI (tk K_X3_numberOf 25 rfl) f_X3_28 rfl (LaS.o hS) ?_
      refine x_iconst (tk K_X3_numberOf 26 rfl) ic_1 ?_
      refine x_isub (tk K_X3_numberOf 27 rfl) ?_
      refine x_iload (tk K_X3_numberOf 28 rfl) rfl ?_
      refine x_isub (tk K_X3_numberOf 29 rfl) ?_
      refine x_imul (tk K_X3_numberOf 30 rfl) ?_
      refine x_ishl (tk K_X3_numberOf 31 rfl) ?_
      refine x_iadd (tk K_X3_numberOf 32 rfl) ?_
      have h := h _ rfl
      refine x_istore_n (L' := [some (vR _), some (vR _), some (vI _), some (vI _), some (vI _), some (vI _)]) (tk K_X3_numberOf 33 rfl) rfl rfl (Nat.le_of_ble_eq_true rfl) rfl ?_
      refine x_iincW (L' := [some (vR _), some (vR _), some (vI _), some (vI _), some (vI _), some (vI _)]) (tk K_X3_numberOf 34 rfl) rfl ic_1 rfl (Nat.le_of_ble_eq_true rfl) rfl ?_
      refine x_goto (t := 14) (tk K_X3_numberOf 35 rfl) rfl ?_
      exact h

theorem e_X3_numberOf {X : Cx} {d kc ns : Nat} {M : Mem} {Q : Option AV → Mem → Prop} {a0 : Nat} {a1 : Nat} {a2 : Int32} (h : WA X d kc ns m_X3_numberOf 0 [some (vR a0), some (vR a1), some (vI a2), none, none, none] [] M Q) : Cl X d kc ns m_X3_numberOf [vR a0, vR a1, vI a2] M Q := Cl.intro (k := 3) (by decide) rfl rfl h

-- TwoPencils$Land.lowest(I)I
theorem b_X3_lowest_0 {X : Cx} {d kc ns : Nat} {M : Mem} {Q : Option AV → Mem → Prop} {l0 : Int32}
    (h : Q (some (vI (l0 &&& (-l0)))) M) :
    WA X d kc ns m_X3_lowest 0 [some (vI l0)] [] M Q := by
  refine x_iload_n (tk K_X3_lowest 0 rfl) rfl rfl ?_
  refine x_iload_n (tk K_X3_lowest 1 rfl) rfl rfl ?_
  refine x_ineg (tk K_X3_lowest 2 rfl) ?_
  refine x_iand (tk K_X3_lowest 3 rfl) ?_
  exact x_ireturn (tk K_X3_lowest 4 rfl) rfl rfl h

theorem e_X3_lowest {X : Cx} {d kc ns : Nat} {M : Mem} {Q : Option AV → Mem → Prop} {a0 : Int32} (h : WA X d kc ns m_X3_lowest 0 [some (vI a0)] [] M Q) : Cl X d kc ns m_X3_lowest [vI a0] M Q := Cl.intro (k := 0) (by decide) rfl rfl h

-- TwoPencils$Land.order([II)V
theorem b_X3_order_0 {X : Cx} {d kc ns : Nat} {M : Mem} {Q : Option AV → Mem → Prop} {l0 : Nat} {l1 : Int32}
    (h : WA X d kc ns m_X3_order 2 [some (vR l0), some (vI l1), some (vI (nI 1)), none, none] [] M Q) :
    WA X d kc ns m_X3_order 0 [some (vR l0), some (vI l1), none, none, none] [] M Q := by
  refine x_iconst (tk K_X3_order 0 rfl) ic_1 ?_
  refine x_istore_n (L' := [some (vR _), some (vI _), some (vI _), none, none]) (tk K_X3_order 1 rfl) rfl rfl (Nat.le_of_ble_eq_true rfl) rfl ?_
  exact h

theorem b_X3_order_2 {X : Cx} {d kc ns : Nat} {M : Mem} {Q : Option AV → Mem → Prop} {l0 : Nat} {l1 : Int32} {l2 : Int32}
    (h : ((l1 ≤ l2 → Q none M) ∧ (¬ l1 ≤ l2 → ∃ n1 : Nat, isK M l0 14 n1 ∧ vp_in l2 n1 ∧ ∀ x1 : Int32, x1 = (mI M l0 (ix l2)) → WA X d kc ns m_X3_order 14 [some (vR l0), some (vI l1), some (vI l2), some (vI x1), some (vI l2)] [] M Q))) :
    WA X d kc ns m_X3_order 2 [some (vR l0), some (vI l1), some (vI l2), none, none] [] M Q := by
  refine x_iload_n (tk K_X3_order 2 rfl) rfl rfl ?_
  refine x_iload_n (tk K_X3_order 3 rfl) rfl rfl ?_
  refine x_icmp_ge (t := 62) (tk K_X3_order 4 rfl) rfl (fun hc => ?_) (fun hc => ?_)
  · have h := h.1 hc
    exact x_return (tk K_X3_order 38 rfl) rfl h
  · have h := h.2 hc
    refine x_aload_n (tk K_X3_order 5 rfl) rfl rfl ?_
    refine x_iload_n (tk K_X3_order 6 rfl) rfl rfl ?_
    obtain ⟨n1, hA_n1, h⟩ := h
    have hi := h.1
    have h := h.2
    refine x_iald (tk K_X3_order 7 rfl) hA_n1 hi ?_
    have h := h _ rfl
    refine x_istore_n (L' := [some (vR _), some (vI _), some (vI _), some (vI _), none]) (tk K_X3_order 8 rfl) rfl rfl (Nat.le_of_ble_eq_true rfl) rfl ?_
    refine x_iload_n (tk K_X3_order 9 rfl) rfl rfl ?_
    refine x_istore (L' := [some (vR _), some (vI _), some (vI _), some (vI _), some (vI _)]) (tk K_X3_order 10 rfl) rfl (Nat.le_of_ble_eq_true rfl) rfl ?_
    exact h

theorem b_X3_order_14 {X : Cx} {d kc ns : Nat} {M : Mem} {Q : Option AV → Mem → Prop} {l0 : Nat} {l1 : Int32} {l2 : Int32} {l3 : Int32} {l4 : Int32} (hd : 1 ≤ d)
    (h : ((l4 ≤ nI 0 → WA X d kc ns m_X3_order 51 [some (vR l0), some (vI l1), some (vI l2), some (vI l3), some (vI l4)] [] M Q) ∧ (¬ l4 ≤ nI 0 → ∃ n1 : Nat, isK M l0 14 n1 ∧ vp_in (l4 - (nI 1)) n1 ∧ Cl X (d - 1) 0 0 m_X3_lowest [vI (mI M l0 (ix (l4 - (nI 1))))] M (fun r M1 => ∃ x1 : Int32, r = some (vI x1) ∧ Ext M M1 ∧ Cl X (d - 1) 0 0 m_X3_lowest [vI l3] M1 (fun r M2 => ∃ x2 : Int32, r = some (vI x2) ∧ Ext M1 M2 ∧ ((x1 ≤ x2 → WA X d kc ns m_X3_order 51 [some (vR l0), some (vI l1), some (vI l2), some (vI l3), some (vI l4)] [] M2 Q) ∧ (¬ x1 ≤ x2 → vp_in (l4 - (nI 1)) n1 ∧ vp_in l4 n1 ∧ ∀ M3 : Mem, M3 = sI M2 l0 (ix l4) (mI M2 l0 (ix (l4 - (nI 1)))) → WA X d kc ns m_X3_order 14 [some (vR l0), some (vI l1), some (vI l2), some (vI l3), some (vI (l4 + (-1)))] [] M3 Q))))))) :
    WA X d kc ns m_X3_order 14 [some (vR l0), some (vI l1), some (vI l2), some (vI l3), some (vI l4)] [] M Q := by
  refine x_iload (tk K_X3_order 11 rfl) rfl ?_
  refine x_if_le (t := 51) (tk K_X3_order 12 rfl) rfl (fun hc => ?_) (fun hc => ?_)
  · have h := h.1 hc
    exact h
  · have h := h.2 hc
    refine x_aload_n (tk K_X3_order 13 rfl) rfl rfl ?_
    refine x_iload (tk K_X3_order 14 rfl) rfl ?_
    refine x_iconst (tk K_X3_order 15 rfl) ic_1 ?_
    refine x_isub (tk K_X3_order 16 rfl) ?_
    obtain ⟨n1, hA_n1, h⟩ := h
    have hi := h.1
    have h := h.2
    refine x_iald (tk K_X3_order 17 rfl) hA_n1 hi ?_
    refine x_callS0 (As := [vI _]) (S := []) (tk K_X3_order 18 rfl) mk_X3_123 mo_X3_lowest rfl rfl (Nat.le_of_ble_eq_true rfl) hd h (fun r M1 hq => ?_)
    obtain ⟨x1, rfl, hE, h⟩ := hq
    have hT0 := hE.1 _ _ _ hA_n1
    refine x_iload_n (tk K_X3_order 19 rfl) rfl rfl ?_
    refine x_callS0 (As := [vI _]) (S := [vI _]) (tk K_X3_order 20 rfl) mk_X3_123 mo_X3_lowest rfl rfl (Nat.le_of_ble_eq_true rfl) hd h (fun r M2 hq => ?_)
    obtain ⟨x2, rfl, hE, h⟩ := hq
    have hT1 := hE.1 _ _ _ hT0
    refine x_icmp_le (t := 51) (tk K_X3_order 21 rfl) rfl (fun hc => ?_) (fun hc => ?_)
    · have h := h.1 hc
      exact h
    · have h := h.2 hc
      refine x_aload_n (tk K_X3_order 22 rfl) rfl rfl ?_
      refine x_iload (tk K_X3_order 23 rfl) rfl ?_
      refine x_aload_n (tk K_X3_order 24 rfl) rfl rfl ?_
      refine x_iload (tk K_X3_order 25 rfl) rfl ?_
      refine x_iconst (tk K_X3_order 26 rfl) ic_1 ?_
      refine x_isub (tk K_X3_order 27 rfl) ?_
      have hi := h.1
      have h := h.2
      refine x_iald (tk K_X3_order 28 rfl) hT1 hi ?_
      have hi := h.1
      have h := h.2
      have h := h _ rfl
      refine x_iast (tk K_X3_order 29 rfl) hT1 hi ?_
      refine x_iincW (L' := [some (vR _), some (vI _), some (vI _), some (vI _), some (vI _)]) (tk K_X3_order 30 rfl) rfl ic_m1 rfl (Nat.le_of_ble_eq_true rfl) rfl ?_
      refine x_goto (t := 14) (tk K_X3_order 31 rfl) rfl ?_
      exact h

theorem b_X3_order_51 {X : Cx} {d kc ns : Nat} {M : Mem} {Q : Option AV → Mem → Prop} {l0 : Nat} {l1 : Int32} {l2 : Int32} {l3 : Int32} {l4 : Int32}
    (h : ∃ n1 : Nat, isK M l0 14 n1 ∧ vp_in l4 n1 ∧ ∀ M1 : Mem, M1 = sI M l0 (ix l4) l3 → WA X d kc ns m_X3_order 2 [some (vR l0), some (vI l1), some (vI (l2 + (nI 1))), none, none] [] M1 Q) :
    WA X d kc ns m_X3_order 51 [some (vR l0), some (vI l1), some (vI l2), some (vI l3), some (vI l4)] [] M Q := by
  refine x_aload_n (tk K_X3_order 32 rfl) rfl rfl ?_
  refine x_iload (tk K_X3_order 33 rfl) rfl ?_
  refine x_iload_n (tk K_X3_order 34 rfl) rfl rfl ?_
  obtain ⟨n1, hA_n1, h⟩ := h
  have hi := h.1
  have h := h.2
  have h := h _ rfl
  refine x_iast (tk K_X3_order 35 rfl) hA_n1 hi ?_
  refine x_iincW (L' := [some (vR _), some (vI _), some (vI _), some (vI _), some (vI _)]) (tk K_X3_order 36 rfl) rfl ic_1 rfl (Nat.le_of_ble_eq_true rfl) rfl ?_
  refine x_goto (t := 2) (tk K_X3_order 37 rfl) rfl ?_
  refine x_msk [true, true, true, false, false] ?_
  exact h

theorem e_X3_order {X : Cx} {d kc ns : Nat} {M : Mem} {Q : Option AV → Mem → Prop} {a0 : Nat} {a1 : Int32} (h : WA X d kc ns m_X3_order 0 [some (vR a0), some (vI a1), none, none, none] [] M Q) : Cl X d kc ns m_X3_order [vR a0, vI a1] M Q := Cl.intro (k := 3) (by decide) rfl rfl h

-- TwoPencils$Land.wins([II)I
theorem b_X3_wins_0 {X : Cx} {d kc ns : Nat} {M : Mem} {Q : Option AV → Mem → Prop} {l0 : Nat} {l1 : Nat} {l2 : Int32} (hS : LaS M l0)
    (h : WA X d kc ns m_X3_wins 5 [some (vR l0), some (vR l1), some (vI l2), some (vI (nI 0)), some (vI (nI 0))] [] M Q) :
    WA X d kc ns m_X3_wins 0 [some (vR l0), some (vR l1), some (vI l2), none, none] [] M Q := by
  refine x_iconst (tk K_X3_wins 0 rfl) ic_0 ?_
  refine x_istore_n (L' := [some (vR _), some (vR _), some (vI _), some (vI _), none]) (tk K_X3_wins 1 rfl) rfl rfl (Nat.le_of_ble_eq_true rfl) rfl ?_
  refine x_iconst (tk K_X3_wins 2 rfl) ic_0 ?_
  refine x_istore (L' := [some (vR _), some (vR _), some (vI _), some (vI _), some (vI _)]) (tk K_X3_wins 3 rfl) rfl (Nat.le_of_ble_eq_true rfl) rfl ?_
  exact h

theorem b_X3_wins_5 {X : Cx} {d kc ns : Nat} {M : Mem} {Q : Option AV → Mem → Prop} {l0 : Nat} {l1 : Nat} {l2 : Int32} {l3 : Int32} {l4 : Int32} (hS : LaS M l0) (hd : 1 ≤ d)
    (h : (((mI M l0 1) ≤ l4 → Q (some (vI l3)) M) ∧ (¬ (mI M l0 1) ≤ l4 → ∃ n1 : Nat, isK M l1 14 n1 ∧ vp_in l4 n1 ∧ Cl X (d - 1) 0 0 m_X3_winnerIn [vR l0, vI (mI M l1 (ix l4))] M (fun r M1 => ∃ x1 : Int32, r = some (vI x1) ∧ Ext M M1 ∧ ((¬ x1 = l2 → WA X d kc ns m_X3_wins 5 [some (vR l0), some (vR l1), some (vI l2), some (vI l3), some (vI (l4 + (nI 1)))] [] M1 Q) ∧ (x1 = l2 → WA X d kc ns m_X3_wins 5 [some (vR l0), some (vR l1), some (vI l2), some (vI (l3 + (nI 1))), some (vI (l4 + (nI 1)))] [] M1 Q)))))) :
    WA X d kc ns m_X3_wins 5 [some (vR l0), some (vR l1), some (vI l2), some (vI l3), some (vI l4)] [] M Q := by
  refine x_iload (tk K_X3_wins 4 rfl) rfl ?_
  refine x_aload_n (tk K_X3_wins 5 rfl) rfl rfl ?_
  refine x_getI (tk K_X3_wins 6 rfl) f_X3_32 rfl (LaS.o hS) ?_
  refine x_icmp_ge (t := 35) (tk K_X3_wins 7 rfl) rfl (fun hc => ?_) (fun hc => ?_)
  · have h := h.1 hc
    refine x_iload_n (tk K_X3_wins 18 rfl) rfl rfl ?_
    exact x_ireturn (tk K_X3_wins 19 rfl) rfl rfl h
  · have h := h.2 hc
    refine x_aload_n (tk K_X3_wins 8 rfl) rfl rfl ?_
    refine x_aload_n (tk K_X3_wins 9 rfl) rfl rfl ?_
    refine x_iload (tk K_X3_wins 10 rfl) rfl ?_
    obtain ⟨n1, hA_n1, h⟩ := h
    have hi := h.1
    have h := h.2
    refine x_iald (tk K_X3_wins 11 rfl) hA_n1 hi ?_
    refine x_callV0 (As := [vI _]) (S := []) (tk K_X3_wins 12 rfl) mk_X3_126 mo_X3_winnerIn (LaS.o hS) rfl rfl (Nat.le_of_ble_eq_true rfl) hd h (fun r M1 hq => ?_)
    obtain ⟨x1, rfl, hE, h⟩ := hq
    have hT0 := LaS.ext hS hE
    have hT1 := hE.1 _ _ _ hA_n1
    refine x_iload_n (tk K_X3_wins 13 rfl) rfl rfl ?_
    refine x_icmp_ne (t := 29) (tk K_X3_wins 14 rfl) rfl (fun hc => ?_) (fun hc => ?_)
    · have h := h.1 hc
      refine x_iincW (L' := [some (vR _), some (vR _), some (vI _), some (vI _), some (vI _)]) (tk K_X3_wins 16 rfl) rfl ic_1 rfl (Nat.le_of_ble_eq_true rfl) rfl ?_
      refine x_goto (t := 5) (tk K_X3_wins 17 rfl) rfl ?_
      exact h
    · have h := h.2 hc
      refine x_iincW (L' := [some (vR _), some (vR _), some (vI _), some (vI _), some (vI _)]) (tk K_X3_wins 15 rfl) rfl ic_1 rfl (Nat.le_of_ble_eq_true rfl) rfl ?_
      refine x_iincW (L' := [some (vR _), some (vR _), some (vI _), some (vI _), some (vI _)]) (tk K_X3_wins 16 rfl) rfl ic_1 rfl (Nat.le_of_ble_eq_true rfl) rfl ?_
      refine x_goto (t := 5) (tk K_X3_wins 17 rfl) rfl ?_
      exact h

theorem e_X3_wins {X : Cx} {d kc ns : Nat} {M : Mem} {Q : Option AV → Mem → Prop} {a0 : Nat} {a1 : Nat} {a2 : Int32} (h : WA X d kc ns m_X3_wins 0 [some (vR a0), some (vR a1), some (vI a2), none, none] [] M Q) : Cl X d kc ns m_X3_wins [vR a0, vR a1, vI a2] M Q := Cl.intro (k := 2) (by decide) rfl rfl h

-- TwoPencils$Land.worthOfAll([III)I
theorem b_X3_worthOfAll_0 {X : Cx} {d kc ns : Nat} {M : Mem} {Q : Option AV → Mem → Prop} {l0 : Nat} {l1 : Nat} {l2 : Int32} {l3 : Int32} (hS : LaS M l0)
    (h : WA X d kc ns m_X3_worthOfAll 6 [some (vR l0), some (vR l1), some (vI l2), some (vI l3), some (vI (nI 0)), some (vI (nI 0))] [] M Q) :
    WA X d kc ns m_X3_worthOfAll 0 [some (vR l0), some (vR l1), some (vI l2), some (vI l3), none, none] [] M Q := by
  refine x_iconst (tk K_X3_worthOfAll 0 rfl) ic_0 ?_
  refine x_istore (L' := [some (vR _), some (vR _), some (vI _), some (vI _), some (vI _), none]) (tk K_X3_worthOfAll 1 rfl) rfl (Nat.le_of_ble_eq_true rfl) rfl ?_
  refine x_iconst (tk K_X3_worthOfAll 2 rfl) ic_0 ?_
  refine x_istore (L' := [some (vR _), some (vR _), some (vI _), some (vI _), some (vI _), some (vI _)]) (tk K_X3_worthOfAll 3 rfl) rfl (Nat.le_of_ble_eq_true rfl) rfl ?_
  exact h

theorem b_X3_worthOfAll_6 {X : Cx} {d kc ns : Nat} {M : Mem} {Q : Option AV → Mem → Prop} {l0 : Nat} {l1 : Nat} {l2 : Int32} {l3 : Int32} {l4 : Int32} {l5 : Int32} (hS : LaS M l0) (hd : 1 ≤ d)
    (h : ((l2 ≤ l5 → Q (some (vI l4)) M) ∧ (¬ l2 ≤ l5 → ∃ n1 : Nat, isK M l1 14 n1 ∧ vp_in l5 n1 ∧ Cl X (d - 1) 0 0 m_X3_worth [vR l0, vI (mI M l1 (ix l5)), vI l3] M (fun r M1 => ∃ x1 : Int32, r = some (vI x1) ∧ Ext M M1 ∧ ∀ x2 : Int32, x2 = (l4 + x1) → WA X d kc ns m_X3_worthOfAll 6 [some (vR l0), some (vR l1), some (vI l2), some (vI l3), some (vI x2), some (vI (l5 + (nI 1)))] [] M1 Q)))) :
    WA X d kc ns m_X3_worthOfAll 6 [some (vR l0), some (vR l1), some (vI l2), some (vI l3), some (vI l4), some (vI l5)] [] M Q := by
  refine x_iload (tk K_X3_worthOfAll 4 rfl) rfl ?_
  refine x_iload_n (tk K_X3_worthOfAll 5 rfl) rfl rfl ?_
  refine x_icmp_ge (t := 32) (tk K_X3_worthOfAll 6 rfl) rfl (fun hc => ?_) (fun hc => ?_)
  · have h := h.1 hc
    refine x_iload (tk K_X3_worthOfAll 18 rfl) rfl ?_
    exact x_ireturn (tk K_X3_worthOfAll 19 rfl) rfl rfl h
  · have h := h.2 hc
    refine x_iload (tk K_X3_worthOfAll 7 rfl) rfl ?_
    refine x_aload_n (tk K_X3_worthOfAll 8 rfl) rfl rfl ?_
    refine x_aload_n (tk K_X3_worthOfAll 9 rfl) rfl rfl ?_
    refine x_iload (tk K_X3_worthOfAll 10 rfl) rfl ?_
    obtain ⟨n1, hA_n1, h⟩ := h
    have hi := h.1
    have h := h.2
    refine x_iald (tk K_X3_worthOfAll 11 rfl) hA_n1 hi ?_
    refine x_iload_n (tk K_X3_worthOfAll 12 rfl) rfl rfl ?_
    refine x_callV0 (As := [vI _, vI _]) (S := [vI _]) (tk K_X3_worthOfAll 13 rfl) mk_X3_132 mo_X3_worth (LaS.o hS) rfl rfl (Nat.le_of_ble_eq_true rfl) hd h (fun r M1 hq => ?_)
    obtain ⟨x1, rfl, hE, h⟩ := hq
    have hT0 := LaS.ext hS hE
    have hT1 := hE.1 _ _ _ hA_n1
    refine x_iadd (tk K_X3_worthOfAll 14 rfl) ?_
    have h := h _ rfl
    refine x_istore (L' := [some (vR _), some (vR _), some (vI _), some (vI _), some (vI _), some (vI _)]) (tk K_X3_worthOfAll 15 rfl) rfl (Nat.le_of_ble_eq_true rfl) rfl ?_
    refine x_iincW (L' := [some (vR _), some (vR _), some (vI _), some (vI _), some (vI _), some (vI _)]) (tk K_X3_worthOfAll 16 rfl) rfl ic_1 rfl (Nat.le_of_ble_eq_true rfl) rfl ?_
    refine x_goto (t := 6) (tk K_X3_worthOfAll 17 rfl) rfl ?_
    exact h

theorem e_X3_worthOfAll {X : Cx} {d kc ns : Nat} {M : Mem} {Q : Option AV → Mem → Prop} {a0 : Nat} {a1 : Nat} {a2 : Int32} {a3 : Int32} (h : WA X d kc ns m_X3_worthOfAll 0 [some (vR a0), some (vR a1), some (vI a2), some (vI a3), none, none] [] M Q) : Cl X d kc ns m_X3_worthOfAll [vR a0, vR a1, vI a2, vI a3] M Q := Cl.intro (k := 2) (by decide) rfl rfl h

-- TwoPencils$Land.farUpper(II)I
theorem b_X3_farUpper_0 {X : Cx} {d kc ns : Nat} {M : Mem} {Q : Option AV → Mem → Prop} {l0 : Nat} {l1 : Int32} {l2 : Int32} (hS : LaS M l0) (hd : 1 ≤ d)
    (h : Cl X (d - 1) 0 0 m_X3_headsIn [vR l0, vI (mI M l0 4)] M (fun r M1 => ∃ x1 : Int32, r = some (vI x1) ∧ Ext M M1 ∧ Cl X (d - 1) 0 0 m_X3_votesIn [vR l0, vI (mI M1 l0 4), vI l2] M1 (fun r M2 => ∃ x2 : Int32, r = some (vI x2) ∧ Ext M1 M2 ∧ Q (some (vI (absI ((l1 * x1) - (x2 * (mI M2 l0 1)))))) M2))) :
    WA X d kc ns m_X3_farUpper 0 [some (vR l0), some (vI l1), some (vI l2)] [] M Q := by
  refine x_iload_n (tk K_X3_farUpper 0 rfl) rfl rfl ?_
  refine x_aload_n (tk K_X3_farUpper 1 rfl) rfl rfl ?_
  refine x_aload_n (tk K_X3_farUpper 2 rfl) rfl rfl ?_
  refine x_getI (tk K_X3_farUpper 3 rfl) f_X3_41 rfl (LaS.o hS) ?_
  refine x_callV0 (As := [vI _]) (S := [vI _]) (tk K_X3_farUpper 4 rfl) mk_X3_109 mo_X3_headsIn (LaS.o hS) rfl rfl (Nat.le_of_ble_eq_true rfl) hd h (fun r M1 hq => ?_)
  obtain ⟨x1, rfl, hE, h⟩ := hq
  have hT0 := LaS.ext hS hE
  refine x_imul (tk K_X3_farUpper 5 rfl) ?_
  refine x_aload_n (tk K_X3_farUpper 6 rfl) rfl rfl ?_
  refine x_aload_n (tk K_X3_farUpper 7 rfl) rfl rfl ?_
  refine x_getI (tk K_X3_farUpper 8 rfl) f_X3_41 rfl (LaS.o hT0) ?_
  refine x_iload_n (tk K_X3_farUpper 9 rfl) rfl rfl ?_
  refine x_callV0 (As := [vI _, vI _]) (S := [vI _]) (tk K_X3_farUpper 10 rfl) mk_X3_105 mo_X3_votesIn (LaS.o hT0) rfl rfl (Nat.le_of_ble_eq_true rfl) hd h (fun r M2 hq => ?_)
  obtain ⟨x2, rfl, hE, h⟩ := hq
  have hT1 := LaS.ext hT0 hE
  refine x_aload_n (tk K_X3_farUpper 11 rfl) rfl rfl ?_
  refine x_getI (tk K_X3_farUpper 12 rfl) f_X3_32 rfl (LaS.o hT1) ?_
  refine x_imul (tk K_X3_farUpper 13 rfl) ?_
  refine x_isub (tk K_X3_farUpper 14 rfl) ?_
  refine x_mabs (tk K_X3_farUpper 15 rfl) mx_X3_135 mx_abs_st mx_abs_co hd (Nat.le_of_ble_eq_true rfl) ?_
  exact x_ireturn (tk K_X3_farUpper 16 rfl) rfl rfl h

theorem e_X3_farUpper {X : Cx} {d kc ns : Nat} {M : Mem} {Q : Option AV → Mem → Prop} {a0 : Nat} {a1 : Int32} {a2 : Int32} (h : WA X d kc ns m_X3_farUpper 0 [some (vR a0), some (vI a1), some (vI a2)] [] M Q) : Cl X d kc ns m_X3_farUpper [vR a0, vI a1, vI a2] M Q := Cl.intro (k := 0) (by decide) rfl rfl h

-- TwoPencils$Land.farLower()I
theorem b_X3_farLower_0 {X : Cx} {d kc ns : Nat} {M : Mem} {Q : Option AV → Mem → Prop} {l0 : Nat} (hS : LaS M l0) (hd : 1 ≤ d)
    (h : Cl X (d - 1) 0 0 m_X3_headsIn [vR l0, vI (mI M l0 4)] M (fun r M1 => ∃ x1 : Int32, r = some (vI x1) ∧ Ext M M1 ∧ Q (some (vI (maxI (nI 1) (x1 * (mI M1 l0 1))))) M1)) :
    WA X d kc ns m_X3_farLower 0 [some (vR l0)] [] M Q := by
  refine x_iconst (tk K_X3_farLower 0 rfl) ic_1 ?_
  refine x_aload_n (tk K_X3_farLower 1 rfl) rfl rfl ?_
  refine x_aload_n (tk K_X3_farLower 2 rfl) rfl rfl ?_
  refine x_getI (tk K_X3_farLower 3 rfl) f_X3_41 rfl (LaS.o hS) ?_
  refine x_callV0 (As := [vI _]) (S := [vI _]) (tk K_X3_farLower 4 rfl) mk_X3_109 mo_X3_headsIn (LaS.o hS) rfl rfl (Nat.le_of_ble_eq_true rfl) hd h (fun r M1 hq => ?_)
  obtain ⟨x1, rfl, hE, h⟩ := hq
  have hT0 := LaS.ext hS hE
  refine x_aload_n (tk K_X3_farLower 5 rfl) rfl rfl ?_
  refine x_getI (tk K_X3_farLower 6 rfl) f_X3_32 rfl (LaS.o hT0) ?_
  refine x_imul (tk K_X3_farLower 7 rfl) ?_
  refine x_mmax (tk K_X3_farLower 8 rfl) mx_X3_140 mx_max_st mx_max_co hd (Nat.le_of_ble_eq_true rfl) ?_
  exact x_ireturn (tk K_X3_farLower 9 rfl) rfl rfl h

theorem e_X3_farLower {X : Cx} {d kc ns : Nat} {M : Mem} {Q : Option AV → Mem → Prop} {a0 : Nat} (h : WA X d kc ns m_X3_farLower 0 [some (vR a0)] [] M Q) : Cl X d kc ns m_X3_farLower [vR a0] M Q := Cl.intro (k := 0) (by decide) rfl rfl h

-- TwoPencils$Land.distance([I[I)I
theorem b_X3_distance_0 {X : Cx} {d kc ns : Nat} {M : Mem} {Q : Option AV → Mem → Prop} {l0 : Nat} {l1 : Nat} {l2 : Nat} (hS : LaS M l0)
    (h : WA X d kc ns m_X3_distance 2 [some (vR l0), some (vR l1), some (vR l2), some (vI (nI 1)), none, none, none, none] [] M Q) :
    WA X d kc ns m_X3_distance 0 [some (vR l0), some (vR l1), some (vR l2), none, none, none, none, none] [] M Q := by
  refine x_iconst (tk K_X3_distance 0 rfl) ic_1 ?_
  refine x_istore_n (L' := [some (vR _), some (vR _), some (vR _), some (vI _), none, none, none, none]) (tk K_X3_distance 1 rfl) rfl rfl (Nat.le_of_ble_eq_true rfl) rfl ?_
  exact h

theorem b_X3_distance_2 {X : Cx} {d kc ns : Nat} {M : Mem} {Q : Option AV → Mem → Prop} {l0 : Nat} {l1 : Nat} {l2 : Nat} {l3 : Int32} (hS : LaS M l0) (hd : 1 ≤ d)
    (h : (((shl (nI 1) (mI M l0 1)) ≤ l3 → vp_in ((shl (nI 1) (mI M l0 1)) - (nI 1)) 16 ∧ Q (some (vI ((mI M l0 0) - (mI M (l0 + 1) (ix ((shl (nI 1) (mI M l0 1)) - (nI 1))))))) M) ∧ (¬ (shl (nI 1) (mI M l0 1)) ≤ l3 → Cl X (d - 1) 0 0 m_J6_bitCount_0f7a4 [vI l3] M (fun r M1 => ∃ x1 : Int32, r = some (vI x1) ∧ Ext M M1 ∧ ∀ x2 : Int32, x2 = (x1 - (nI 1)) → WA X d kc ns m_X3_distance 26 [some (vR l0), some (vR l1), some (vR l2), some (vI l3), some (vI x2), some (vI (nI 0)), some (vI (nI 0)), none] [] M1 Q)))) :
    WA X d kc ns m_X3_distance 2 [some (vR l0), some (vR l1), some (vR l2), some (vI l3), none, none, none, none] [] M Q := by
  refine x_iload_n (tk K_X3_distance 2 rfl) rfl rfl ?_
  refine x_iconst (tk K_X3_distance 3 rfl) ic_1 ?_
  refine x_aload_n (tk K_X3_distance 4 rfl) rfl rfl ?_
  refine x_getI (tk K_X3_distance 5 rfl) f_X3_32 rfl (LaS.o hS) ?_
  refine x_ishl (tk K_X3_distance 6 rfl) ?_
  refine x_icmp_ge (t := 99) (tk K_X3_distance 7 rfl) rfl (fun hc => ?_) (fun hc => ?_)
  · have h := h.1 hc
    refine x_aload_n (tk K_X3_distance 58 rfl) rfl rfl ?_
    refine x_getI (tk K_X3_distance 59 rfl) f_X3_28 rfl (LaS.o hS) ?_
    refine x_aload_n (tk K_X3_distance 60 rfl) rfl rfl ?_
    refine x_getRc (tk K_X3_distance 61 rfl) f_X3_9 rfl (LaS.o hS) (LaS.r12 hS) ?_
    refine x_iconst (tk K_X3_distance 62 rfl) ic_1 ?_
    refine x_aload_n (tk K_X3_distance 63 rfl) rfl rfl ?_
    refine x_getI (tk K_X3_distance 64 rfl) f_X3_32 rfl (LaS.o hS) ?_
    refine x_ishl (tk K_X3_distance 65 rfl) ?_
    refine x_iconst (tk K_X3_distance 66 rfl) ic_1 ?_
    refine x_isub (tk K_X3_distance 67 rfl) ?_
    have hi := h.1
    have h := h.2
    refine x_iald (tk K_X3_distance 68 rfl) (LaS.k12 hS) hi ?_
    refine x_isub (tk K_X3_distance 69 rfl) ?_
    exact x_ireturn (tk K_X3_distance 70 rfl) rfl rfl h
  · have h := h.2 hc
    refine x_iload_n (tk K_X3_distance 8 rfl) rfl rfl ?_
    refine x_callS0 (As := [vI _]) (S := []) (tk K_X3_distance 9 rfl) mk_X3_143 mo_J6_bitCount_0f7a4 rfl rfl (Nat.le_of_ble_eq_true rfl) hd h (fun r M1 hq => ?_)
    obtain ⟨x1, rfl, hE, h⟩ := hq
    have hT0 := LaS.ext hS hE
    refine x_iconst (tk K_X3_distance 10 rfl) ic_1 ?_
    refine x_isub (tk K_X3_distance 11 rfl) ?_
    have h := h _ rfl
    refine x_istore (L' := [some (vR _), some (vR _), some (vR _), some (vI _), some (vI _), none, none, none]) (tk K_X3_distance 12 rfl) rfl (Nat.le_of_ble_eq_true rfl) rfl ?_
    refine x_iconst (tk K_X3_distance 13 rfl) ic_0 ?_
    refine x_istore (L' := [some (vR _), some (vR _), some (vR _), some (vI _), some (vI _), some (vI _), none, none]) (tk K_X3_distance 14 rfl) rfl (Nat.le_of_ble_eq_true rfl) rfl ?_
    refine x_iconst (tk K_X3_distance 15 rfl) ic_0 ?_
    refine x_istore (L' := [some (vR _), some (vR _), some (vR _), some (vI _), some (vI _), some (vI _), some (vI _), none]) (tk K_X3_distance 16 rfl) rfl (Nat.le_of_ble_eq_true rfl) rfl ?_
    exact h

theorem b_X3_distance_26 {X : Cx} {d kc ns : Nat} {M : Mem} {Q : Option AV → Mem → Prop} {l0 : Nat} {l1 : Nat} {l2 : Nat} {l3 : Int32} {l4 : Int32} {l5 : Int32} {l6 : Int32} (hS : LaS M l0) (hd : 1 ≤ d)
    (h : (((mI M l0 1) ≤ l6 → vp_in l3 16 ∧ ∀ M1 : Mem, M1 = sI M (l0 + 1) (ix l3) l5 → WA X d kc ns m_X3_distance 2 [some (vR l0), some (vR l1), some (vR l2), some (vI (l3 + (nI 1))), none, none, none, none] [] M1 Q) ∧ (¬ (mI M l0 1) ≤ l6 → ((((shr l3 l6) &&& (nI 1)) = nI 0 → WA X d kc ns m_X3_distance 26 [some (vR l0), some (vR l1), some (vR l2), some (vI l3), some (vI l4), some (vI l5), some (vI (l6 + (nI 1))), none] [] M Q) ∧ (¬ ((shr l3 l6) &&& (nI 1)) = nI 0 → ∃ n1 : Nat, isK M l1 14 n1 ∧ vp_in l4 n1 ∧ ∃ n2 : Nat, isK M l2 14 n2 ∧ vp_in l6 n2 ∧ Cl X (d - 1) 0 0 m_J6_bitCount_0f7a4 [vI ((mI M l1 (ix l4)) &&& (mI M l2 (ix l6)))] M (fun r M2 => ∃ x1 : Int32, r = some (vI x1) ∧ Ext M M2 ∧ vp_in (l3 ^^^ (shl (nI 1) l6)) 16 ∧ ∀ x2 : Int32, x2 = (maxI l5 ((mI M2 (l0 + 1) (ix (l3 ^^^ (shl (nI 1) l6)))) + x1)) → WA X d kc ns m_X3_distance 26 [some (vR l0), some (vR l1), some (vR l2), some (vI l3), some (vI l4), some (vI x2), some (vI (l6 + (nI 1))), none] [] M2 Q)))))) :
    WA X d kc ns m_X3_distance 26 [some (vR l0), some (vR l1), some (vR l2), some (vI l3), some (vI l4), some (vI l5), some (vI l6), none] [] M Q := by
  refine x_iload (tk K_X3_distance 17 rfl) rfl ?_
  refine x_aload_n (tk K_X3_distance 18 rfl) rfl rfl ?_
  refine x_getI (tk K_X3_distance 19 rfl) f_X3_32 rfl (LaS.o hS) ?_
  refine x_icmp_ge (t := 85) (tk K_X3_distance 20 rfl) rfl (fun hc => ?_) (fun hc => ?_)
  · have h := h.1 hc
    refine x_aload_n (tk K_X3_distance 51 rfl) rfl rfl ?_
    refine x_getRc (tk K_X3_distance 52 rfl) f_X3_9 rfl (LaS.o hS) (LaS.r12 hS) ?_
    refine x_iload_n (tk K_X3_distance 53 rfl) rfl rfl ?_
    refine x_iload (tk K_X3_distance 54 rfl) rfl ?_
    have hi := h.1
    have h := h.2
    have h := h _ rfl
    refine x_iast (tk K_X3_distance 55 rfl) (LaS.k12 hS) hi ?_
    refine x_iincW (L' := [some (vR _), some (vR _), some (vR _), some (vI _), some (vI _), some (vI _), some (vI _), none]) (tk K_X3_distance 56 rfl) rfl ic_1 rfl (Nat.le_of_ble_eq_true rfl) rfl ?_
    refine x_goto (t := 2) (tk K_X3_distance 57 rfl) rfl ?_
    refine x_msk [true, true, true, true, false, false, false, false] ?_
    exact h
  · have h := h.2 hc
    refine x_iload_n (tk K_X3_distance 21 rfl) rfl rfl ?_
    refine x_iload (tk K_X3_distance 22 rfl) rfl ?_
    refine x_ishr (tk K_X3_distance 23 rfl) ?_
    refine x_iconst (tk K_X3_distance 24 rfl) ic_1 ?_
    refine x_iand (tk K_X3_distance 25 rfl) ?_
    refine x_if_eq (t := 79) (tk K_X3_distance 26 rfl) rfl (fun hc => ?_) (fun hc => ?_)
    · have h := h.1 hc
      refine x_iincW (L' := [some (vR _), some (vR _), some (vR _), some (vI _), some (vI _), some (vI _), some (vI _), none]) (tk K_X3_distance 49 rfl) rfl ic_1 rfl (Nat.le_of_ble_eq_true rfl) rfl ?_
      refine x_goto (t := 26) (tk K_X3_distance 50 rfl) rfl ?_
      exact h
    · have h := h.2 hc
      refine x_aload_n (tk K_X3_distance 27 rfl) rfl rfl ?_
      refine x_iload (tk K_X3_distance 28 rfl) rfl ?_
      obtain ⟨n1, hA_n1, h⟩ := h
      have hi := h.1
      have h := h.2
      refine x_iald (tk K_X3_distance 29 rfl) hA_n1 hi ?_
      refine x_aload_n (tk K_X3_distance 30 rfl) rfl rfl ?_
      refine x_iload (tk K_X3_distance 31 rfl) rfl ?_
      obtain ⟨n2, hA_n2, h⟩ := h
      have hi := h.1
      have h := h.2
      refine x_iald (tk K_X3_distance 32 rfl) hA_n2 hi ?_
      refine x_iand (tk K_X3_distance 33 rfl) ?_
      refine x_callS0 (As := [vI _]) (S := []) (tk K_X3_distance 34 rfl) mk_X3_143 mo_J6_bitCount_0f7a4 rfl rfl (Nat.le_of_ble_eq_true rfl) hd h (fun r M2 hq => ?_)
      obtain ⟨x1, rfl, hE, h⟩ := hq
      have hT0 := LaS.ext hS hE
      have hT1 := hE.1 _ _ _ hA_n1
      have hT2 := hE.1 _ _ _ hA_n2
      refine x_istore (L' := [some (vR _), some (vR _), some (vR _), some (vI _), some (vI _), some (vI _), some (vI _), some (vI _)]) (tk K_X3_distance 35 rfl) rfl (Nat.le_of_ble_eq_true rfl) rfl ?_
      refine x_iload (tk K_X3_distance 36 rfl) rfl ?_
      refine x_aload_n (tk K_X3_distance 37 rfl) rfl rfl ?_
      refine x_getRc (tk K_X3_distance 38 rfl) f_X3_9 rfl (LaS.o hT0) (LaS.r12 hT0) ?_
      refine x_iload_n (tk K_X3_distance 39 rfl) rfl rfl ?_
      refine x_iconst (tk K_X3_distance 40 rfl) ic_1 ?_
      refine x_iload (tk K_X3_distance 41 rfl) rfl ?_
      refine x_ishl (tk K_X3_distance 42 rfl) ?_
      refine x_ixor (tk K_X3_distance 43 rfl) ?_
      have hi := h.1
      have h := h.2
      refine x_iald (tk K_X3_distance 44 rfl) (LaS.k12 hT0) hi ?_
      refine x_iload (tk K_X3_distance 45 rfl) rfl ?_
      refine x_iadd (tk K_X3_distance 46 rfl) ?_
      refine x_mmax (tk K_X3_distance 47 rfl) mx_X3_140 mx_max_st mx_max_co hd (Nat.le_of_ble_eq_true rfl) ?_
      have h := h _ rfl
      refine x_istore (L' := [some (vR _), some (vR _), some (vR _), some (vI _), some (vI _), some (vI _), some (vI _), some (vI _)]) (tk K_X3_distance 48 rfl) rfl (Nat.le_of_ble_eq_true rfl) rfl ?_
      refine x_iincW (L' := [some (vR _), some (vR _), some (vR _), some (vI _), some (vI _), some (vI _), some (vI _), some (vI _)]) (tk K_X3_distance 49 rfl) rfl ic_1 rfl (Nat.le_of_ble_eq_true rfl) rfl ?_
      refine x_goto (t := 26) (tk K_X3_distance 50 rfl) rfl ?_
      refine x_msk [true, true, true, true, true, true, true, false] ?_
      exact h

theorem e_X3_distance {X : Cx} {d kc ns : Nat} {M : Mem} {Q : Option AV → Mem → Prop} {a0 : Nat} {a1 : Nat} {a2 : Nat} (h : WA X d kc ns m_X3_distance 0 [some (vR a0), some (vR a1), some (vR a2), none, none, none, none, none] [] M Q) : Cl X d kc ns m_X3_distance [vR a0, vR a1, vR a2] M Q := Cl.intro (k := 5) (by decide) rfl rfl h

-- TwoPencils$Land.isSettled([I)Z
theorem b_X3_isSettled_0 {X : Cx} {d kc ns : Nat} {M : Mem} {Q : Option AV → Mem → Prop} {l0 : Nat} {l1 : Nat} (hS : LaS M l0)
    (h : WA X d kc ns m_X3_isSettled 2 [some (vR l0), some (vR l1), some (vI (nI 0)), none] [] M Q) :
    WA X d kc ns m_X3_isSettled 0 [some (vR l0), some (vR l1), none, none] [] M Q := by
  refine x_iconst (tk K_X3_isSettled 0 rfl) ic_0 ?_
  refine x_istore_n (L' := [some (vR _), some (vR _), some (vI _), none]) (tk K_X3_isSettled 1 rfl) rfl rfl (Nat.le_of_ble_eq_true rfl) rfl ?_
  exact h

theorem b_X3_isSettled_2 {X : Cx} {d kc ns : Nat} {M : Mem} {Q : Option AV → Mem → Prop} {l0 : Nat} {l1 : Nat} {l2 : Int32} (hS : LaS M l0)
    (h : (((mI M l0 1) ≤ l2 → Q (some (vI (nI 1))) M) ∧ (¬ (mI M l0 1) ≤ l2 → WA X d kc ns m_X3_isSettled 12 [some (vR l0), some (vR l1), some (vI l2), some (vI (nI 0))] [] M Q))) :
    WA X d kc ns m_X3_isSettled 2 [some (vR l0), some (vR l1), some (vI l2), none] [] M Q := by
  refine x_iload_n (tk K_X3_isSettled 2 rfl) rfl rfl ?_
  refine x_aload_n (tk K_X3_isSettled 3 rfl) rfl rfl ?_
  refine x_getI (tk K_X3_isSettled 4 rfl) f_X3_32 rfl (LaS.o hS) ?_
  refine x_icmp_ge (t := 52) (tk K_X3_isSettled 5 rfl) rfl (fun hc => ?_) (fun hc => ?_)
  · have h := h.1 hc
    refine x_iconst (tk K_X3_isSettled 30 rfl) ic_1 ?_
    exact x_ireturn (tk K_X3_isSettled 31 rfl) rfl (fitZ (Or.inr rfl)).1 h
  · have h := h.2 hc
    refine x_iconst (tk K_X3_isSettled 6 rfl) ic_0 ?_
    refine x_istore_n (L' := [some (vR _), some (vR _), some (vI _), some (vI _)]) (tk K_X3_isSettled 7 rfl) rfl rfl (Nat.le_of_ble_eq_true rfl) rfl ?_
    exact h

theorem b_X3_isSettled_12 {X : Cx} {d kc ns : Nat} {M : Mem} {Q : Option AV → Mem → Prop} {l0 : Nat} {l1 : Nat} {l2 : Int32} {l3 : Int32} (hS : LaS M l0) (hd : 1 ≤ d)
    (h : (((mI M l0 1) ≤ l3 → WA X d kc ns m_X3_isSettled 2 [some (vR l0), some (vR l1), some (vI (l2 + (nI 1))), none] [] M Q) ∧ (¬ (mI M l0 1) ≤ l3 → ((l2 = l3 → WA X d kc ns m_X3_isSettled 12 [some (vR l0), some (vR l1), some (vI l2), some (vI (l3 + (nI 1)))] [] M Q) ∧ (¬ l2 = l3 → ∃ n1 : Nat, isK M l1 14 n1 ∧ vp_in l2 n1 ∧ vp_in l3 n1 ∧ Cl X (d - 1) 0 0 m_X3_changesBalance [vR l0, vI (mI M l1 (ix l2)), vI (mI M l1 (ix l3))] M (fun r M1 => ∃ x1 : Int32, r = some (vI x1) ∧ Ext M M1 ∧ ((x1 = nI 0 → WA X d kc ns m_X3_isSettled 12 [some (vR l0), some (vR l1), some (vI l2), some (vI (l3 + (nI 1)))] [] M1 Q) ∧ (¬ x1 = nI 0 → Q (some (vI (nI 0))) M1)))))))) :
    WA X d kc ns m_X3_isSettled 12 [some (vR l0), some (vR l1), some (vI l2), some (vI l3)] [] M Q := by
  refine x_iload_n (tk K_X3_isSettled 8 rfl) rfl rfl ?_
  refine x_aload_n (tk K_X3_isSettled 9 rfl) rfl rfl ?_
  refine x_getI (tk K_X3_isSettled 10 rfl) f_X3_32 rfl (LaS.o hS) ?_
  refine x_icmp_ge (t := 46) (tk K_X3_isSettled 11 rfl) rfl (fun hc => ?_) (fun hc => ?_)
  · have h := h.1 hc
    refine x_iincW (L' := [some (vR _), some (vR _), some (vI _), some (vI _)]) (tk K_X3_isSettled 28 rfl) rfl ic_1 rfl (Nat.le_of_ble_eq_true rfl) rfl ?_
    refine x_goto (t := 2) (tk K_X3_isSettled 29 rfl) rfl ?_
    refine x_msk [true, true, true, false] ?_
    exact h
  · have h := h.2 hc
    refine x_iload_n (tk K_X3_isSettled 12 rfl) rfl rfl ?_
    refine x_iload_n (tk K_X3_isSettled 13 rfl) rfl rfl ?_
    refine x_icmp_eq (t := 40) (tk K_X3_isSettled 14 rfl) rfl (fun hc => ?_) (fun hc => ?_)
    · have h := h.1 hc
      refine x_iincW (L' := [some (vR _), some (vR _), some (vI _), some (vI _)]) (tk K_X3_isSettled 26 rfl) rfl ic_1 rfl (Nat.le_of_ble_eq_true rfl) rfl ?_
      refine x_goto (t := 12) (tk K_X3_isSettled 27 rfl) rfl ?_
      exact h
    · have h := h.2 hc
      refine x_aload_n (tk K_X3_isSettled 15 rfl) rfl rfl ?_
      refine x_aload_n (tk K_X3_isSettled 16 rfl) rfl rfl ?_
      refine x_iload_n (tk K_X3_isSettled 17 rfl) rfl rfl ?_
      obtain ⟨n1, hA_n1, h⟩ := h
      have hi := h.1
      have h := h.2
      refine x_iald (tk K_X3_isSettled 18 rfl) hA_n1 hi ?_
      refine x_aload_n (tk K_X3_isSettled 19 rfl) rfl rfl ?_
      refine x_iload_n (tk K_X3_isSettled 20 rfl) rfl rfl ?_
      have hi := h.1
      have h := h.2
      refine x_iald (tk K_X3_isSettled 21 rfl) hA_n1 hi ?_
      refine x_callV0 (As := [vI _, vI _]) (S := []) (tk K_X3_isSettled 22 rfl) mk_X3_148 mo_X3_changesBalance (LaS.o hS) rfl rfl (Nat.le_of_ble_eq_true rfl) hd h (fun r M1 hq => ?_)
      obtain ⟨x1, rfl, hE, h⟩ := hq
      have hT0 := LaS.ext hS hE
      have hT1 := hE.1 _ _ _ hA_n1
      refine x_if_eq (t := 40) (tk K_X3_isSettled 23 rfl) rfl (fun hc => ?_) (fun hc => ?_)
      · have h := h.1 hc
        refine x_iincW (L' := [some (vR _), some (vR _), some (vI _), some (vI _)]) (tk K_X3_isSettled 26 rfl) rfl ic_1 rfl (Nat.le_of_ble_eq_true rfl) rfl ?_
        refine x_goto (t := 12) (tk K_X3_isSettled 27 rfl) rfl ?_
        exact h
      · have h := h.2 hc
        refine x_iconst (tk K_X3_isSettled 24 rfl) ic_0 ?_
        exact x_ireturn (tk K_X3_isSettled 25 rfl) rfl (fitZ (Or.inl rfl)).1 h

theorem e_X3_isSettled {X : Cx} {d kc ns : Nat} {M : Mem} {Q : Option AV → Mem → Prop} {a0 : Nat} {a1 : Nat} (h : WA X d kc ns m_X3_isSettled 0 [some (vR a0), some (vR a1), none, none] [] M Q) : Cl X d kc ns m_X3_isSettled [vR a0, vR a1] M Q := Cl.intro (k := 2) (by decide) rfl rfl h

-- TwoPencils$Land.changesBalance(II)Z
theorem b_X3_changesBalance_0 {X : Cx} {d kc ns : Nat} {M : Mem} {Q : Option AV → Mem → Prop} {l0 : Nat} {l1 : Int32} {l2 : Int32} (hS : LaS M l0) (hd : 1 ≤ d)
    (h : Cl X (d - 1) 0 0 m_X3_worth [vR l0, vI l1, vI (nI 0)] M (fun r M1 => ∃ x1 : Int32, r = some (vI x1) ∧ Ext M M1 ∧ Cl X (d - 1) 0 0 m_X3_worth [vR l0, vI l2, vI (nI 0)] M1 (fun r M2 => ∃ x2 : Int32, r = some (vI x2) ∧ Ext M1 M2 ∧ ∀ x3 : Int32, x3 = (x1 + x2) → WA X d kc ns m_X3_changesBalance 17 [some (vR l0), some (vI l1), some (vI l2), some (vI x3), some (vI (nI 0)), none] [] M2 Q))) :
    WA X d kc ns m_X3_changesBalance 0 [some (vR l0), some (vI l1), some (vI l2), none, none, none] [] M Q := by
  refine x_aload_n (tk K_X3_changesBalance 0 rfl) rfl rfl ?_
  refine x_iload_n (tk K_X3_changesBalance 1 rfl) rfl rfl ?_
  refine x_iconst (tk K_X3_changesBalance 2 rfl) ic_0 ?_
  refine x_callV0 (As := [vI _, vI _]) (S := []) (tk K_X3_changesBalance 3 rfl) mk_X3_132 mo_X3_worth (LaS.o hS) rfl rfl (Nat.le_of_ble_eq_true rfl) hd h (fun r M1 hq => ?_)
  obtain ⟨x1, rfl, hE, h⟩ := hq
  have hT0 := LaS.ext hS hE
  refine x_aload_n (tk K_X3_changesBalance 4 rfl) rfl rfl ?_
  refine x_iload_n (tk K_X3_changesBalance 5 rfl) rfl rfl ?_
  refine x_iconst (tk K_X3_changesBalance 6 rfl) ic_0 ?_
  refine x_callV0 (As := [vI _, vI _]) (S := [vI _]) (tk K_X3_changesBalance 7 rfl) mk_X3_132 mo_X3_worth (LaS.o hT0) rfl rfl (Nat.le_of_ble_eq_true rfl) hd h (fun r M2 hq => ?_)
  obtain ⟨x2, rfl, hE, h⟩ := hq
  have hT1 := LaS.ext hT0 hE
  refine x_iadd (tk K_X3_changesBalance 8 rfl) ?_
  have h := h _ rfl
  refine x_istore_n (L' := [some (vR _), some (vI _), some (vI _), some (vI _), none, none]) (tk K_X3_changesBalance 9 rfl) rfl rfl (Nat.le_of_ble_eq_true rfl) rfl ?_
  refine x_iconst (tk K_X3_changesBalance 10 rfl) ic_0 ?_
  refine x_istore (L' := [some (vR _), some (vI _), some (vI _), some (vI _), some (vI _), none]) (tk K_X3_changesBalance 11 rfl) rfl (Nat.le_of_ble_eq_true rfl) rfl ?_
  exact h

theorem b_X3_changesBalance_17 {X : Cx} {d kc ns : Nat} {M : Mem} {Q : Option AV → Mem → Prop} {l0 : Nat} {l1 : Int32} {l2 : Int32} {l3 : Int32} {l4 : Int32} (hS : LaS M l0) (hd : 1 ≤ d)
    (h : (((mI M l0 0) ≤ l4 → Q (some (vI (nI 0))) M) ∧ (¬ (mI M l0 0) ≤ l4 → ∀ x1 : Int32, x1 = (shl (nI 1) l4) → (((l1 &&& x1) = nI 0 → WA X d kc ns m_X3_changesBalance 17 [some (vR l0), some (vI l1), some (vI l2), some (vI l3), some (vI (l4 + (nI 1))), none] [] M Q) ∧ (¬ (l1 &&& x1) = nI 0 → Cl X (d - 1) 0 0 m_X3_isLawful [vR l0, vI (l1 ^^^ x1)] M (fun r M1 => ∃ x2 : Int32, r = some (vI x2) ∧ Ext M M1 ∧ ((x2 = nI 0 → WA X d kc ns m_X3_changesBalance 17 [some (vR l0), some (vI l1), some (vI l2), some (vI l3), some (vI (l4 + (nI 1))), none] [] M1 Q) ∧ (¬ x2 = nI 0 → Cl X (d - 1) 0 0 m_X3_isLawful [vR l0, vI (l2 ||| x1)] M1 (fun r M2 => ∃ x3 : Int32, r = some (vI x3) ∧ Ext M1 M2 ∧ ((x3 = nI 0 → WA X d kc ns m_X3_changesBalance 17 [some (vR l0), some (vI l1), some (vI l2), some (vI l3), some (vI (l4 + (nI 1))), none] [] M2 Q) ∧ (¬ x3 = nI 0 → Cl X (d - 1) 0 0 m_X3_worth [vR l0, vI (l1 ^^^ x1), vI (nI 0)] M2 (fun r M3 => ∃ x4 : Int32, r = some (vI x4) ∧ Ext M2 M3 ∧ Cl X (d - 1) 0 0 m_X3_worth [vR l0, vI (l2 ||| x1), vI (nI 0)] M3 (fun r M4 => ∃ x5 : Int32, r = some (vI x5) ∧ Ext M3 M4 ∧ (((x4 + x5) = l3 → WA X d kc ns m_X3_changesBalance 17 [some (vR l0), some (vI l1), some (vI l2), some (vI l3), some (vI (l4 + (nI 1))), none] [] M4 Q) ∧ (¬ (x4 + x5) = l3 → Q (some (vI (nI 1))) M4))))))))))))))) :
    WA X d kc ns m_X3_changesBalance 17 [some (vR l0), some (vI l1), some (vI l2), some (vI l3), some (vI l4), none] [] M Q := by
  refine x_iload (tk K_X3_changesBalance 12 rfl) rfl ?_
  refine x_aload_n (tk K_X3_changesBalance 13 rfl) rfl rfl ?_
  refine x_getI (tk K_X3_changesBalance 14 rfl) f_X3_28 rfl (LaS.o hS) ?_
  refine x_icmp_ge (t := 92) (tk K_X3_changesBalance 15 rfl) rfl (fun hc => ?_) (fun hc => ?_)
  · have h := h.1 hc
    refine x_iconst (tk K_X3_changesBalance 55 rfl) ic_0 ?_
    exact x_ireturn (tk K_X3_changesBalance 56 rfl) rfl (fitZ (Or.inl rfl)).1 h
  · have h := h.2 hc
    refine x_iconst (tk K_X3_changesBalance 16 rfl) ic_1 ?_
    refine x_iload (tk K_X3_changesBalance 17 rfl) rfl ?_
    refine x_ishl (tk K_X3_changesBalance 18 rfl) ?_
    have h := h _ rfl
    refine x_istore (L' := [some (vR _), some (vI _), some (vI _), some (vI _), some (vI _), some (vI _)]) (tk K_X3_changesBalance 19 rfl) rfl (Nat.le_of_ble_eq_true rfl) rfl ?_
    refine x_iload_n (tk K_X3_changesBalance 20 rfl) rfl rfl ?_
    refine x_iload (tk K_X3_changesBalance 21 rfl) rfl ?_
    refine x_iand (tk K_X3_changesBalance 22 rfl) ?_
    refine x_if_eq (t := 86) (tk K_X3_changesBalance 23 rfl) rfl (fun hc => ?_) (fun hc => ?_)
    · have h := h.1 hc
      refine x_iincW (L' := [some (vR _), some (vI _), some (vI _), some (vI _), some (vI _), some (vI _)]) (tk K_X3_changesBalance 53 rfl) rfl ic_1 rfl (Nat.le_of_ble_eq_true rfl) rfl ?_
      refine x_goto (t := 17) (tk K_X3_changesBalance 54 rfl) rfl ?_
      refine x_msk [true, true, true, true, true, false] ?_
      exact h
    · have h := h.2 hc
      refine x_aload_n (tk K_X3_changesBalance 24 rfl) rfl rfl ?_
      refine x_iload_n (tk K_X3_changesBalance 25 rfl) rfl rfl ?_
      refine x_iload (tk K_X3_changesBalance 26 rfl) rfl ?_
      refine x_ixor (tk K_X3_changesBalance 27 rfl) ?_
      refine x_callV0 (As := [vI _]) (S := []) (tk K_X3_changesBalance 28 rfl) mk_X3_116 mo_X3_isLawful (LaS.o hS) rfl rfl (Nat.le_of_ble_eq_true rfl) hd h (fun r M1 hq => ?_)
      obtain ⟨x2, rfl, hE, h⟩ := hq
      have hT0 := LaS.ext hS hE
      refine x_if_eq (t := 86) (tk K_X3_changesBalance 29 rfl) rfl (fun hc => ?_) (fun hc => ?_)
      · have h := h.1 hc
        refine x_iincW (L' := [some (vR _), some (vI _), some (vI _), some (vI _), some (vI _), some (vI _)]) (tk K_X3_changesBalance 53 rfl) rfl ic_1 rfl (Nat.le_of_ble_eq_true rfl) rfl ?_
        refine x_goto (t := 17) (tk K_X3_changesBalance 54 rfl) rfl ?_
        refine x_msk [true, true, true, true, true, false] ?_
        exact h
      · have h := h.2 hc
        refine x_aload_n (tk K_X3_changesBalance 30 rfl) rfl rfl ?_
        refine x_iload_n (tk K_X3_changesBalance 31 rfl) rfl rfl ?_
        refine x_iload (tk K_X3_changesBalance 32 rfl) rfl ?_
        refine x_ior (tk K_X3_changesBalance 33 rfl) ?_
        refine x_callV0 (As := [vI _]) (S := []) (tk K_X3_changesBalance 34 rfl) mk_X3_116 mo_X3_isLawful (LaS.o hT0) rfl rfl (Nat.le_of_ble_eq_true rfl) hd h (fun r M2 hq => ?_)
        obtain ⟨x3, rfl, hE, h⟩ := hq
        have hT1 := LaS.ext hT0 hE
        refine x_if_eq (t := 86) (tk K_X3_changesBalance 35 rfl) rfl (fun hc => ?_) (fun hc => ?_)
        · have h := h.1 hc
          refine x_iincW (L' := [some (vR _), some (vI _), some (vI _), some (vI _), some (vI _), some (vI _)]) (tk K_X3_changesBalance 53 rfl) rfl ic_1 rfl (Nat.le_of_ble_eq_true rfl) rfl ?_
          refine x_goto (t := 17) (tk K_X3_changesBalance 54 rfl) rfl ?_
          refine x_msk [true, true, true, true, true, false] ?_
          exact h
        · have h := h.2 hc
          refine x_aload_n (tk K_X3_changesBalance 36 rfl) rfl rfl ?_
          refine x_iload_n (tk K_X3_changesBalance 37 rfl) rfl rfl ?_
          refine x_iload (tk K_X3_changesBalance 38 rfl) rfl ?_
          refine x_ixor (tk K_X3_changesBalance 39 rfl) ?_
          refine x_iconst (tk K_X3_changesBalance 40 rfl) ic_0 ?_
          refine x_callV0 (As := [vI _, vI _]) (S := []) (tk K_X3_changesBalance 41 rfl) mk_X3_132 mo_X3_worth (LaS.o hT1) rfl rfl (Nat.le_of_ble_eq_true rfl) hd h (fun r M3 hq => ?_)
          obtain ⟨x4, rfl, hE, h⟩ := hq
          have hT2 := LaS.ext hT1 hE
          refine x_aload_n (tk K_X3_changesBalance 42 rfl) rfl rfl ?_
          refine x_iload_n (tk K_X3_changesBalance 43 rfl) rfl rfl ?_
          refine x_iload (tk K_X3_changesBalance 44 rfl) rfl ?_
          refine x_ior (tk K_X3_changesBalance 45 rfl) ?_
          refine x_iconst (tk K_X3_changesBalance 46 rfl) ic_0 ?_
          refine x_callV0 (As := [vI _, vI _]) (S := [vI _]) (tk K_X3_changesBalance 47 rfl) mk_X3_132 mo_X3_worth (LaS.o hT2) rfl rfl (Nat.le_of_ble_eq_true rfl) hd h (fun r M4 hq => ?_)
          obtain ⟨x5, rfl, hE, h⟩ := hq
          have hT3 := LaS.ext hT2 hE
          refine x_iadd (tk K_X3_changesBalance 48 rfl) ?_
          refine x_iload_n (tk K_X3_changesBalance 49 rfl) rfl rfl ?_
          refine x_icmp_eq (t := 86) (tk K_X3_changesBalance 50 rfl) rfl (fun hc => ?_) (fun hc => ?_)
          · have h := h.1 hc
            refine x_iincW (L' := [some (vR _), some (vI _), some (vI _), some (vI _), some (vI _), some (vI _)]) (tk K_X3_changesBalance 53 rfl) rfl ic_1 rfl (Nat.le_of_ble_eq_true rfl) rfl ?_
            refine x_goto (t := 17) (tk K_X3_changesBalance 54 rfl) rfl ?_
            refine x_msk [true, true, true, true, true, false] ?_
            exact h
          · have h := h.2 hc
            refine x_iconst (tk K_X3_changesBalance 51 rfl) ic_1 ?_
            exact x_ireturn (tk K_X3_changesBalance 52 rfl) rfl (fitZ (Or.inr rfl)).1 h

theorem e_X3_changesBalance {X : Cx} {d kc ns : Nat} {M : Mem} {Q : Option AV → Mem → Prop} {a0 : Nat} {a1 : Int32} {a2 : Int32} (h : WA X d kc ns m_X3_changesBalance 0 [some (vR a0), some (vI a1), some (vI a2), none, none, none] [] M Q) : Cl X d kc ns m_X3_changesBalance [vR a0, vI a1, vI a2] M Q := Cl.intro (k := 3) (by decide) rfl rfl h

-- TwoPencils$Land.nearestSettled(LTwoPencils$Roll;[I[I)I
theorem b_X3_nearestSettled_0 {X : Cx} {d kc ns : Nat} {M : Mem} {Q : Option AV → Mem → Prop} {l0 : Nat} {l1 : Nat} {l2 : Nat} {l3 : Nat} (hS : LaS M l0)
    (h : ∀ x1 : Int32, x1 = ((mI M l0 0) + (nI 1)) → WA X d kc ns m_X3_nearestSettled 14 [some (vR l0), some (vR l1), some (vR l2), some (vR l3), some (vI (-1)), some (vI x1), some (vI (nI 0)), none] [] M Q) :
    WA X d kc ns m_X3_nearestSettled 0 [some (vR l0), some (vR l1), some (vR l2), some (vR l3), none, none, none, none] [] M Q := by
  refine x_iconst (tk K_X3_nearestSettled 0 rfl) ic_m1 ?_
  refine x_istore (L' := [some (vR _), some (vR _), some (vR _), some (vR _), some (vI _), none, none, none]) (tk K_X3_nearestSettled 1 rfl) rfl (Nat.le_of_ble_eq_true rfl) rfl ?_
  refine x_aload_n (tk K_X3_nearestSettled 2 rfl) rfl rfl ?_
  refine x_getI (tk K_X3_nearestSettled 3 rfl) f_X3_28 rfl (LaS.o hS) ?_
  refine x_iconst (tk K_X3_nearestSettled 4 rfl) ic_1 ?_
  refine x_iadd (tk K_X3_nearestSettled 5 rfl) ?_
  have h := h _ rfl
  refine x_istore (L' := [some (vR _), some (vR _), some (vR _), some (vR _), some (vI _), some (vI _), none, none]) (tk K_X3_nearestSettled 6 rfl) rfl (Nat.le_of_ble_eq_true rfl) rfl ?_
  refine x_iconst (tk K_X3_nearestSettled 7 rfl) ic_0 ?_
  refine x_istore (L' := [some (vR _), some (vR _), some (vR _), some (vR _), some (vI _), some (vI _), some (vI _), none]) (tk K_X3_nearestSettled 8 rfl) rfl (Nat.le_of_ble_eq_true rfl) rfl ?_
  exact h

theorem b_X3_nearestSettled_14 {X : Cx} {d kc ns : Nat} {M : Mem} {Q : Option AV → Mem → Prop} {l0 : Nat} {l1 : Nat} {l2 : Nat} {l3 : Nat} {l4 : Int32} {l5 : Int32} {l6 : Int32} (hS : LaS M l0) (hd : 1 ≤ d)
    (h : RoS M l1 ∧ (((mI M l1 2) ≤ l6 → Q (some (vI l4)) M) ∧ (¬ (mI M l1 2) ≤ l6 → ((l5 ≤ (nI 1) → Q (some (vI l4)) M) ∧ (¬ l5 ≤ (nI 1) → ∃ n2 : Nat, isK M (mR M l1 0) 14 n2 ∧ vp_in l6 n2 ∧ Cl X (d - 1) 0 0 m_X3_split [vR l0, vI (mI M (mR M l1 0) (ix l6)), vI (nI 2), vI (mI M l0 4), vI (mI M l0 1), vR l3] M (fun r M1 => ∃ x1 : Int32, r = some (vI x1) ∧ Ext M M1 ∧ Cl X (d - 1) 0 0 m_X3_distance [vR l0, vR l2, vR l3] M1 (fun r M2 => ∃ x2 : Int32, r = some (vI x2) ∧ Ext M1 M2 ∧ ((l5 ≤ x2 → WA X d kc ns m_X3_nearestSettled 14 [some (vR l0), some (vR l1), some (vR l2), some (vR l3), some (vI l4), some (vI l5), some (vI (l6 + (nI 1))), none] [] M2 Q) ∧ (¬ l5 ≤ x2 → Cl X (d - 1) 0 0 m_X3_isSettled [vR l0, vR l3] M2 (fun r M3 => ∃ x3 : Int32, r = some (vI x3) ∧ Ext M2 M3 ∧ ((x3 = nI 0 → WA X d kc ns m_X3_nearestSettled 14 [some (vR l0), some (vR l1), some (vR l2), some (vR l3), some (vI l4), some (vI l5), some (vI (l6 + (nI 1))), none] [] M3 Q) ∧ (¬ x3 = nI 0 → ∃ n3 : Nat, isK M3 (mR M3 l1 0) 14 n3 ∧ vp_in l6 n3 ∧ ∀ x4 : Int32, x4 = (mI M3 (mR M3 l1 0) (ix l6)) → WA X d kc ns m_X3_nearestSettled 14 [some (vR l0), some (vR l1), some (vR l2), some (vR l3), some (vI x4), some (vI x2), some (vI (l6 + (nI 1))), none] [] M3 Q)))))))))))) :
    WA X d kc ns m_X3_nearestSettled 14 [some (vR l0), some (vR l1), some (vR l2), some (vR l3), some (vI l4), some (vI l5), some (vI l6), none] [] M Q := by
  refine x_iload (tk K_X3_nearestSettled 9 rfl) rfl ?_
  refine x_aload_n (tk K_X3_nearestSettled 10 rfl) rfl rfl ?_
  have hS_2 := h.1
  have h := h.2
  refine x_getI (tk K_X3_nearestSettled 11 rfl) f_X3_152 rfl (RoS.o hS_2) ?_
  refine x_icmp_ge (t := 93) (tk K_X3_nearestSettled 12 rfl) rfl (fun hc => ?_) (fun hc => ?_)
  · have h := h.1 hc
    refine x_iload (tk K_X3_nearestSettled 50 rfl) rfl ?_
    exact x_ireturn (tk K_X3_nearestSettled 51 rfl) rfl rfl h
  · have h := h.2 hc
    refine x_iload (tk K_X3_nearestSettled 13 rfl) rfl ?_
    refine x_iconst (tk K_X3_nearestSettled 14 rfl) ic_1 ?_
    refine x_icmp_le (t := 93) (tk K_X3_nearestSettled 15 rfl) rfl (fun hc => ?_) (fun hc => ?_)
    · have h := h.1 hc
      refine x_iload (tk K_X3_nearestSettled 50 rfl) rfl ?_
      exact x_ireturn (tk K_X3_nearestSettled 51 rfl) rfl rfl h
    · have h := h.2 hc
      refine x_aload_n (tk K_X3_nearestSettled 16 rfl) rfl rfl ?_
      refine x_aload_n (tk K_X3_nearestSettled 17 rfl) rfl rfl ?_
      refine x_getR (tk K_X3_nearestSettled 18 rfl) f_X3_155 rfl (RoS.o hS_2) ?_
      refine x_iload (tk K_X3_nearestSettled 19 rfl) rfl ?_
      obtain ⟨n2, hA_n2, h⟩ := h
      have hi := h.1
      have h := h.2
      refine x_iald (tk K_X3_nearestSettled 20 rfl) hA_n2 hi ?_
      refine x_iconst (tk K_X3_nearestSettled 21 rfl) ic_2 ?_
      refine x_aload_n (tk K_X3_nearestSettled 22 rfl) rfl rfl ?_
      refine x_getI (tk K_X3_nearestSettled 23 rfl) f_X3_41 rfl (LaS.o hS) ?_
      refine x_aload_n (tk K_X3_nearestSettled 24 rfl) rfl rfl ?_
      refine x_getI (tk K_X3_nearestSettled 25 rfl) f_X3_32 rfl (LaS.o hS) ?_
      refine x_aload_n (tk K_X3_nearestSettled 26 rfl) rfl rfl ?_
      refine x_callV0 (As := [vI _, vI _, vI _, vI _, vR _]) (S := []) (tk K_X3_nearestSettled 27 rfl) mk_X3_112 mo_X3_split (LaS.o hS) rfl rfl (Nat.le_of_ble_eq_true rfl) hd h (fun r M1 hq => ?_)
      obtain ⟨x1, rfl, hE, h⟩ := hq
      have hT0 := LaS.ext hS hE
      have hT1 := RoS.ext hS_2 hE
      have hT2 := hE.1 _ _ _ hA_n2
      refine x_pop (tk K_X3_nearestSettled 28 rfl) rfl ?_
      refine x_aload_n (tk K_X3_nearestSettled 29 rfl) rfl rfl ?_
      refine x_aload_n (tk K_X3_nearestSettled 30 rfl) rfl rfl ?_
      refine x_aload_n (tk K_X3_nearestSettled 31 rfl) rfl rfl ?_
      refine x_callV0 (As := [vR _, vR _]) (S := []) (tk K_X3_nearestSettled 32 rfl) mk_X3_158 mo_X3_distance (LaS.o hT0) rfl rfl (Nat.le_of_ble_eq_true rfl) hd h (fun r M2 hq => ?_)
      obtain ⟨x2, rfl, hE, h⟩ := hq
      have hT3 := LaS.ext hT0 hE
      have hT4 := RoS.ext hT1 hE
      have hT5 := hE.1 _ _ _ hT2
      refine x_istore (L' := [some (vR _), some (vR _), some (vR _), some (vR _), some (vI _), some (vI _), some (vI _), some (vI _)]) (tk K_X3_nearestSettled 33 rfl) rfl (Nat.le_of_ble_eq_true rfl) rfl ?_
      refine x_iload (tk K_X3_nearestSettled 34 rfl) rfl ?_
      refine x_iload (tk K_X3_nearestSettled 35 rfl) rfl ?_
      refine x_icmp_ge (t := 87) (tk K_X3_nearestSettled 36 rfl) rfl (fun hc => ?_) (fun hc => ?_)
      · have h := h.1 hc
        refine x_iincW (L' := [some (vR _), some (vR _), some (vR _), some (vR _), some (vI _), some (vI _), some (vI _), some (vI _)]) (tk K_X3_nearestSettled 48 rfl) rfl ic_1 rfl (Nat.le_of_ble_eq_true rfl) rfl ?_
        refine x_goto (t := 14) (tk K_X3_nearestSettled 49 rfl) rfl ?_
        refine x_msk [true, true, true, true, true, true, true, false] ?_
        exact h
      · have h := h.2 hc
        refine x_aload_n (tk K_X3_nearestSettled 37 rfl) rfl rfl ?_
        refine x_aload_n (tk K_X3_nearestSettled 38 rfl) rfl rfl ?_
        refine x_callV0 (As := [vR _]) (S := []) (tk K_X3_nearestSettled 39 rfl) mk_X3_162 mo_X3_isSettled (LaS.o hT3) rfl rfl (Nat.le_of_ble_eq_true rfl) hd h (fun r M3 hq => ?_)
        obtain ⟨x3, rfl, hE, h⟩ := hq
        have hT6 := LaS.ext hT3 hE
        have hT7 := RoS.ext hT4 hE
        have hT8 := hE.1 _ _ _ hT5
        refine x_if_eq (t := 87) (tk K_X3_nearestSettled 40 rfl) rfl (fun hc => ?_) (fun hc => ?_)
        · have h := h.1 hc
          refine x_iincW (L' := [some (vR _), some (vR _), some (vR _), some (vR _), some (vI _), some (vI _), some (vI _), some (vI _)]) (tk K_X3_nearestSettled 48 rfl) rfl ic_1 rfl (Nat.le_of_ble_eq_true rfl) rfl ?_
          refine x_goto (t := 14) (tk K_X3_nearestSettled 49 rfl) rfl ?_
          refine x_msk [true, true, true, true, true, true, true, false] ?_
          exact h
        · have h := h.2 hc
          refine x_iload (tk K_X3_nearestSettled 41 rfl) rfl ?_
          refine x_istore (L' := [some (vR _), some (vR _), some (vR _), some (vR _), some (vI _), some (vI _), some (vI _), some (vI _)]) (tk K_X3_nearestSettled 42 rfl) rfl (Nat.le_of_ble_eq_true rfl) rfl ?_
          refine x_aload_n (tk K_X3_nearestSettled 43 rfl) rfl rfl ?_
          refine x_getR (tk K_X3_nearestSettled 44 rfl) f_X3_155 rfl (RoS.o hT7) ?_
          refine x_iload (tk K_X3_nearestSettled 45 rfl) rfl ?_
          obtain ⟨n3, hA_n3, h⟩ := h
          have hi := h.1
          have h := h.2
          refine x_iald (tk K_X3_nearestSettled 46 rfl) hA_n3 hi ?_
          have h := h _ rfl
          refine x_istore (L' := [some (vR _), some (vR _), some (vR _), some (vR _), some (vI _), some (vI _), some (vI _), some (vI _)]) (tk K_X3_nearestSettled 47 rfl) rfl (Nat.le_of_ble_eq_true rfl) rfl ?_
          refine x_iincW (L' := [some (vR _), some (vR _), some (vR _), some (vR _), some (vI _), some (vI _), some (vI _), some (vI _)]) (tk K_X3_nearestSettled 48 rfl) rfl ic_1 rfl (Nat.le_of_ble_eq_true rfl) rfl ?_
          refine x_goto (t := 14) (tk K_X3_nearestSettled 49 rfl) rfl ?_
          refine x_msk [true, true, true, true, true, true, true, false] ?_
          exact h

theorem e_X3_nearestSettled {X : Cx} {d kc ns : Nat} {M : Mem} {Q : Option AV → Mem → Prop} {a0 : Nat} {a1 : Nat} {a2 : Nat} {a3 : Nat} (h : WA X d kc ns m_X3_nearestSettled 0 [some (vR a0), some (vR a1), some (vR a2), some (vR a3), none, none, none, none] [] M Q) : Cl X d kc ns m_X3_nearestSettled [vR a0, vR a1, vR a2, vR a3] M Q := Cl.intro (k := 4) (by decide) rfl rfl h

-- TwoPencils$Land.wander([IJI)V
theorem b_X3_wander_0 {X : Cx} {d kc ns : Nat} {M : Mem} {Q : Option AV → Mem → Prop} {l0 : Nat} {l1 : Nat} {l2 : Int64} {l4 : Int32} (hS : LaS M l0)
    (h : WA X d kc ns m_X3_wander 6 [some (vR l0), some (vR l1), none, none, some (vI l4), some (vJ l2), none, some (vI (nI 0)), none] [] M Q) :
    WA X d kc ns m_X3_wander 0 [some (vR l0), some (vR l1), some (vJ l2), none, some (vI l4), none, none, none, none] [] M Q := by
  refine x_lload_n (tk K_X3_wander 0 rfl) rfl rfl ?_
  refine x_lstore (L' := [some (vR _), some (vR _), some (vJ _), none, some (vI _), some (vJ _), none, none, none]) (tk K_X3_wander 1 rfl) rfl (Nat.le_of_ble_eq_true rfl) rfl ?_
  refine x_iconst (tk K_X3_wander 2 rfl) ic_0 ?_
  refine x_istore (L' := [some (vR _), some (vR _), some (vJ _), none, some (vI _), some (vJ _), none, some (vI _), none]) (tk K_X3_wander 3 rfl) rfl (Nat.le_of_ble_eq_true rfl) rfl ?_
  refine x_msk [true, true, false, false, true, true, false, true, false] ?_
  exact h

theorem b_X3_wander_6 {X : Cx} {d kc ns : Nat} {M : Mem} {Q : Option AV → Mem → Prop} {l0 : Nat} {l1 : Nat} {l4 : Int32} {l5 : Int64} {l7 : Int32} (hS : LaS M l0) (hd : 1 ≤ d)
    (h : ((l4 ≤ l7 → Q none M) ∧ (¬ l4 ≤ l7 → ∀ x1 : Int32, x1 = (Int64.toInt32 (lushr ((l5 * (6364136223846793005)) + (1442695040888963407)) (nI 33))) → (((mI M l0 0) ≤ nI 0 → WA X d kc ns m_X3_wander 6 [some (vR l0), some (vR l1), none, none, some (vI l4), some (vJ ((l5 * (6364136223846793005)) + (1442695040888963407))), none, some (vI (l7 + (nI 1))), none] [] M Q) ∧ (¬ (mI M l0 0) ≤ nI 0 → (((mI M l0 1) ≤ nI 0 → WA X d kc ns m_X3_wander 6 [some (vR l0), some (vR l1), none, none, some (vI l4), some (vJ ((l5 * (6364136223846793005)) + (1442695040888963407))), none, some (vI (l7 + (nI 1))), none] [] M Q) ∧ (¬ (mI M l0 1) ≤ nI 0 → ¬ (mI M l0 0) = nI 0 ∧ ¬ (mI M l0 0) = nI 0 ∧ ¬ (mI M l0 1) = nI 0 ∧ Cl X (d - 1) 0 0 m_X3_transfer [vR l0, vR l1, vI (shl (nI 1) (remI x1 (mI M l0 0))), vI (remI (x1 / (mI M l0 0)) (mI M l0 1))] M (fun r M1 => r = none ∧ Ext M M1 ∧ WA X d kc ns m_X3_wander 6 [some (vR l0), some (vR l1), none, none, some (vI l4), some (vJ ((l5 * (6364136223846793005)) + (1442695040888963407))), none, some (vI (l7 + (nI 1))), none] [] M1 Q)))))))) :
    WA X d kc ns m_X3_wander 6 [some (vR l0), some (vR l1), none, none, some (vI l4), some (vJ l5), none, some (vI l7), none] [] M Q := by
  refine x_iload (tk K_X3_wander 4 rfl) rfl ?_
  refine x_iload (tk K_X3_wander 5 rfl) rfl ?_
  refine x_icmp_ge (t := 79) (tk K_X3_wander 6 rfl) rfl (fun hc => ?_) (fun hc => ?_)
  · have h := h.1 hc
    exact x_return (tk K_X3_wander 42 rfl) rfl h
  · have h := h.2 hc
    refine x_lload (tk K_X3_wander 7 rfl) rfl ?_
    refine x_ldc2 (tk K_X3_wander 8 rfl) kc_X3_166 ?_
    refine x_lmul (tk K_X3_wander 9 rfl) ?_
    refine x_ldc2 (tk K_X3_wander 10 rfl) kc_X3_168 ?_
    refine x_ladd (tk K_X3_wander 11 rfl) ?_
    refine x_lstore (L' := [some (vR _), some (vR _), none, none, some (vI _), some (vJ _), none, some (vI _), none]) (tk K_X3_wander 12 rfl) rfl (Nat.le_of_ble_eq_true rfl) rfl ?_
    refine x_lload (tk K_X3_wander 13 rfl) rfl ?_
    refine x_bipush (tk K_X3_wander 14 rfl) bp_33 ?_
    refine x_lushr (tk K_X3_wander 15 rfl) ?_
    refine x_l2i (tk K_X3_wander 16 rfl) ?_
    have h := h _ rfl
    refine x_istore (L' := [some (vR _), some (vR _), none, none, some (vI _), some (vJ _), none, some (vI _), some (vI _)]) (tk K_X3_wander 17 rfl) rfl (Nat.le_of_ble_eq_true rfl) rfl ?_
    refine x_aload_n (tk K_X3_wander 18 rfl) rfl rfl ?_
    refine x_getI (tk K_X3_wander 19 rfl) f_X3_28 rfl (LaS.o hS) ?_
    refine x_if_le (t := 73) (tk K_X3_wander 20 rfl) rfl (fun hc => ?_) (fun hc => ?_)
    · have h := h.1 hc
      refine x_iincW (L' := [some (vR _), some (vR _), none, none, some (vI _), some (vJ _), none, some (vI _), some (vI _)]) (tk K_X3_wander 40 rfl) rfl ic_1 rfl (Nat.le_of_ble_eq_true rfl) rfl ?_
      refine x_goto (t := 6) (tk K_X3_wander 41 rfl) rfl ?_
      refine x_msk [true, true, false, false, true, true, false, true, false] ?_
      exact h
    · have h := h.2 hc
      refine x_aload_n (tk K_X3_wander 21 rfl) rfl rfl ?_
      refine x_getI (tk K_X3_wander 22 rfl) f_X3_32 rfl (LaS.o hS) ?_
      refine x_if_le (t := 73) (tk K_X3_wander 23 rfl) rfl (fun hc => ?_) (fun hc => ?_)
      · have h := h.1 hc
        refine x_iincW (L' := [some (vR _), some (vR _), none, none, some (vI _), some (vJ _), none, some (vI _), some (vI _)]) (tk K_X3_wander 40 rfl) rfl ic_1 rfl (Nat.le_of_ble_eq_true rfl) rfl ?_
        refine x_goto (t := 6) (tk K_X3_wander 41 rfl) rfl ?_
        refine x_msk [true, true, false, false, true, true, false, true, false] ?_
        exact h
      · have h := h.2 hc
        refine x_aload_n (tk K_X3_wander 24 rfl) rfl rfl ?_
        refine x_aload_n (tk K_X3_wander 25 rfl) rfl rfl ?_
        refine x_iconst (tk K_X3_wander 26 rfl) ic_1 ?_
        refine x_iload (tk K_X3_wander 27 rfl) rfl ?_
        refine x_aload_n (tk K_X3_wander 28 rfl) rfl rfl ?_
        refine x_getI (tk K_X3_wander 29 rfl) f_X3_28 rfl (LaS.o hS) ?_
        refine x_iremR (tk K_X3_wander 30 rfl) h.1 ?_
        have h := h.2
        refine x_ishl (tk K_X3_wander 31 rfl) ?_
        refine x_iload (tk K_X3_wander 32 rfl) rfl ?_
        refine x_aload_n (tk K_X3_wander 33 rfl) rfl rfl ?_
        refine x_getI (tk K_X3_wander 34 rfl) f_X3_28 rfl (LaS.o hS) ?_
        refine x_idiv (tk K_X3_wander 35 rfl) h.1 ?_
        have h := h.2
        refine x_aload_n (tk K_X3_wander 36 rfl) rfl rfl ?_
        refine x_getI (tk K_X3_wander 37 rfl) f_X3_32 rfl (LaS.o hS) ?_
        refine x_iremR (tk K_X3_wander 38 rfl) h.1 ?_
        have h := h.2
        refine x_callV0 (As := [vR _, vI _, vI _]) (S := []) (tk K_X3_wander 39 rfl) mk_X3_170 mo_X3_transfer (LaS.o hS) rfl rfl (Nat.le_of_ble_eq_true rfl) hd h (fun r M1 hq => ?_)
        obtain ⟨rfl, hE, h⟩ := hq
        have hT0 := LaS.ext hS hE
        refine x_iincW (L' := [some (vR _), some (vR _), none, none, some (vI _), some (vJ _), none, some (vI _), some (vI _)]) (tk K_X3_wander 40 rfl) rfl ic_1 rfl (Nat.le_of_ble_eq_true rfl) rfl ?_
        refine x_goto (t := 6) (tk K_X3_wander 41 rfl) rfl ?_
        refine x_msk [true, true, false, false, true, true, false, true, false] ?_
        exact h

theorem e_X3_wander {X : Cx} {d kc ns : Nat} {M : Mem} {Q : Option AV → Mem → Prop} {a0 : Nat} {a1 : Nat} {a2 : Int64} {a3 : Int32} (h : WA X d kc ns m_X3_wander 0 [some (vR a0), some (vR a1), some (vJ a2), none, some (vI a3), none, none, none, none] [] M Q) : Cl X d kc ns m_X3_wander [vR a0, vR a1, vJ a2, vI a3] M Q := Cl.intro (k := 4) (by decide) rfl rfl h

-- TwoPencils$Land.transfer([III)V
theorem b_X3_transfer_0 {X : Cx} {d kc ns : Nat} {M : Mem} {Q : Option AV → Mem → Prop} {l0 : Nat} {l1 : Nat} {l2 : Int32} {l3 : Int32} (hS : LaS M l0)
    (h : WA X d kc ns m_X3_transfer 6 [some (vR l0), some (vR l1), some (vI l2), some (vI l3), some (vI (nI 0)), some (vI (nI 0))] [] M Q) :
    WA X d kc ns m_X3_transfer 0 [some (vR l0), some (vR l1), some (vI l2), some (vI l3), none, none] [] M Q := by
  refine x_iconst (tk K_X3_transfer 0 rfl) ic_0 ?_
  refine x_istore (L' := [some (vR _), some (vR _), some (vI _), some (vI _), some (vI _), none]) (tk K_X3_transfer 1 rfl) rfl (Nat.le_of_ble_eq_true rfl) rfl ?_
  refine x_iconst (tk K_X3_transfer 2 rfl) ic_0 ?_
  refine x_istore (L' := [some (vR _), some (vR _), some (vI _), some (vI _), some (vI _), some (vI _)]) (tk K_X3_transfer 3 rfl) rfl (Nat.le_of_ble_eq_true rfl) rfl ?_
  exact h

theorem b_X3_transfer_6 {X : Cx} {d kc ns : Nat} {M : Mem} {Q : Option AV → Mem → Prop} {l0 : Nat} {l1 : Nat} {l2 : Int32} {l3 : Int32} {l4 : Int32} {l5 : Int32} (hS : LaS M l0) (hd : 1 ≤ d)
    (h : (((mI M l0 1) ≤ l5 → ((l4 = l3 → Q none M) ∧ (¬ l4 = l3 → ∃ n1 : Nat, isK M l1 14 n1 ∧ vp_in l4 n1 ∧ Cl X (d - 1) 0 0 m_X3_isLawful [vR l0, vI ((mI M l1 (ix l4)) ^^^ l2)] M (fun r M1 => ∃ x1 : Int32, r = some (vI x1) ∧ Ext M M1 ∧ ((x1 = nI 0 → Q none M1) ∧ (¬ x1 = nI 0 → vp_in l3 n1 ∧ Cl X (d - 1) 0 0 m_X3_isLawful [vR l0, vI ((mI M1 l1 (ix l3)) ||| l2)] M1 (fun r M2 => ∃ x2 : Int32, r = some (vI x2) ∧ Ext M1 M2 ∧ ((x2 = nI 0 → Q none M2) ∧ (¬ x2 = nI 0 → vp_in l4 n1 ∧ vp_in l4 n1 ∧ ∀ M3 : Mem, M3 = sI M2 l1 (ix l4) ((mI M2 l1 (ix l4)) ^^^ l2) → vp_in l3 n1 ∧ vp_in l3 n1 ∧ ∀ M4 : Mem, M4 = sI M3 l1 (ix l3) ((mI M3 l1 (ix l3)) ||| l2) → Cl X (d - 1) 0 0 m_X3_order [vR l1, vI (mI M4 l0 1)] M4 (fun r M5 => r = none ∧ Ext M4 M5 ∧ Q none M5)))))))))) ∧ (¬ (mI M l0 1) ≤ l5 → ∃ n2 : Nat, isK M l1 14 n2 ∧ vp_in l5 n2 ∧ ((((mI M l1 (ix l5)) &&& l2) = nI 0 → WA X d kc ns m_X3_transfer 6 [some (vR l0), some (vR l1), some (vI l2), some (vI l3), some (vI l4), some (vI (l5 + (nI 1)))] [] M Q) ∧ (¬ ((mI M l1 (ix l5)) &&& l2) = nI 0 → WA X d kc ns m_X3_transfer 6 [some (vR l0), some (vR l1), some (vI l2), some (vI l3), some (vI l5), some (vI (l5 + (nI 1)))] [] M Q))))) :
    WA X d kc ns m_X3_transfer 6 [some (vR l0), some (vR l1), some (vI l2), some (vI l3), some (vI l4), some (vI l5)] [] M Q := by
  refine x_iload (tk K_X3_transfer 4 rfl) rfl ?_
  refine x_aload_n (tk K_X3_transfer 5 rfl) rfl rfl ?_
  refine x_getI (tk K_X3_transfer 6 rfl) f_X3_32 rfl (LaS.o hS) ?_
  refine x_icmp_ge (t := 34) (tk K_X3_transfer 7 rfl) rfl (fun hc => ?_) (fun hc => ?_)
  · have h := h.1 hc
    refine x_iload (tk K_X3_transfer 18 rfl) rfl ?_
    refine x_iload_n (tk K_X3_transfer 19 rfl) rfl rfl ?_
    refine x_icmp_eq (t := 88) (tk K_X3_transfer 20 rfl) rfl (fun hc => ?_) (fun hc => ?_)
    · have h := h.1 hc
      exact x_return (tk K_X3_transfer 55 rfl) rfl h
    · have h := h.2 hc
      refine x_aload_n (tk K_X3_transfer 21 rfl) rfl rfl ?_
      refine x_aload_n (tk K_X3_transfer 22 rfl) rfl rfl ?_
      refine x_iload (tk K_X3_transfer 23 rfl) rfl ?_
      obtain ⟨n1, hA_n1, h⟩ := h
      have hi := h.1
      have h := h.2
      refine x_iald (tk K_X3_transfer 24 rfl) hA_n1 hi ?_
      refine x_iload_n (tk K_X3_transfer 25 rfl) rfl rfl ?_
      refine x_ixor (tk K_X3_transfer 26 rfl) ?_
      refine x_callV0 (As := [vI _]) (S := []) (tk K_X3_transfer 27 rfl) mk_X3_116 mo_X3_isLawful (LaS.o hS) rfl rfl (Nat.le_of_ble_eq_true rfl) hd h (fun r M1 hq => ?_)
      obtain ⟨x1, rfl, hE, h⟩ := hq
      have hT0 := LaS.ext hS hE
      have hT1 := hE.1 _ _ _ hA_n1
      refine x_if_eq (t := 88) (tk K_X3_transfer 28 rfl) rfl (fun hc => ?_) (fun hc => ?_)
      · have h := h.1 hc
        exact x_return (tk K_X3_transfer 55 rfl) rfl h
      · have h := h.2 hc
        refine x_aload_n (tk K_X3_transfer 29 rfl) rfl rfl ?_
        refine x_aload_n (tk K_X3_transfer 30 rfl) rfl rfl ?_
        refine x_iload_n (tk K_X3_transfer 31 rfl) rfl rfl ?_
        have hi := h.1
        have h := h.2
        refine x_iald (tk K_X3_transfer 32 rfl) hT1 hi ?_
        refine x_iload_n (tk K_X3_transfer 33 rfl) rfl rfl ?_
        refine x_ior (tk K_X3_transfer 34 rfl) ?_
        refine x_callV0 (As := [vI _]) (S := []) (tk K_X3_transfer 35 rfl) mk_X3_116 mo_X3_isLawful (LaS.o hT0) rfl rfl (Nat.le_of_ble_eq_true rfl) hd h (fun r M2 hq => ?_)
        obtain ⟨x2, rfl, hE, h⟩ := hq
        have hT2 := LaS.ext hT0 hE
        have hT3 := hE.1 _ _ _ hT1
        refine x_if_eq (t := 88) (tk K_X3_transfer 36 rfl) rfl (fun hc => ?_) (fun hc => ?_)
        · have h := h.1 hc
          exact x_return (tk K_X3_transfer 55 rfl) rfl h
        · have h := h.2 hc
          refine x_aload_n (tk K_X3_transfer 37 rfl) rfl rfl ?_
          refine x_iload (tk K_X3_transfer 38 rfl) rfl ?_
          refine x_dup2 (tk K_X3_transfer 39 rfl) rfl rfl ?_
          have hi := h.1
          have h := h.2
          refine x_iald (tk K_X3_transfer 40 rfl) hT3 hi ?_
          refine x_iload_n (tk K_X3_transfer 41 rfl) rfl rfl ?_
          refine x_ixor (tk K_X3_transfer 42 rfl) ?_
          have hi := h.1
          have h := h.2
          have h := h _ rfl
          refine x_iast (tk K_X3_transfer 43 rfl) hT3 hi ?_
          refine x_aload_n (tk K_X3_transfer 44 rfl) rfl rfl ?_
          refine x_iload_n (tk K_X3_transfer 45 rfl) rfl rfl ?_
          refine x_dup2 (tk K_X3_transfer 46 rfl) rfl rfl ?_
          have hi := h.1
          have h := h.2
          refine x_iald (tk K_X3_transfer 47 rfl) hT3 hi ?_
          refine x_iload_n (tk K_X3_transfer 48 rfl) rfl rfl ?_
          refine x_ior (tk K_X3_transfer 49 rfl) ?_
          have hi := h.1
          have h := h.2
          have h := h _ rfl
          refine x_iast (tk K_X3_transfer 50 rfl) hT3 hi ?_
          refine x_aload_n (tk K_X3_transfer 51 rfl) rfl rfl ?_
          refine x_aload_n (tk K_X3_transfer 52 rfl) rfl rfl ?_
          refine x_getI (tk K_X3_transfer 53 rfl) f_X3_32 rfl (LaS.o hT2) ?_
          refine x_callS0 (As := [vR _, vI _]) (S := []) (tk K_X3_transfer 54 rfl) mk_X3_174 mo_X3_order rfl rfl (Nat.le_of_ble_eq_true rfl) hd h (fun r M5 hq => ?_)
          obtain ⟨rfl, hE, h⟩ := hq
          have hT4 := LaS.ext hT2 hE
          have hT5 := hE.1 _ _ _ hT3
          exact x_return (tk K_X3_transfer 55 rfl) rfl h
  · have h := h.2 hc
    refine x_aload_n (tk K_X3_transfer 8 rfl) rfl rfl ?_
    refine x_iload (tk K_X3_transfer 9 rfl) rfl ?_
    obtain ⟨n2, hA_n2, h⟩ := h
    have hi := h.1
    have h := h.2
    refine x_iald (tk K_X3_transfer 10 rfl) hA_n2 hi ?_
    refine x_iload_n (tk K_X3_transfer 11 rfl) rfl rfl ?_
    refine x_iand (tk K_X3_transfer 12 rfl) ?_
    refine x_if_eq (t := 28) (tk K_X3_transfer 13 rfl) rfl (fun hc => ?_) (fun hc => ?_)
    · have h := h.1 hc
      refine x_iincW (L' := [some (vR _), some (vR _), some (vI _), some (vI _), some (vI _), some (vI _)]) (tk K_X3_transfer 16 rfl) rfl ic_1 rfl (Nat.le_of_ble_eq_true rfl) rfl ?_
      refine x_goto (t := 6) (tk K_X3_transfer 17 rfl) rfl ?_
      exact h
    · have h := h.2 hc
      refine x_iload (tk K_X3_transfer 14 rfl) rfl ?_
      refine x_istore (L' := [some (vR _), some (vR _), some (vI _), some (vI _), some (vI _), some (vI _)]) (tk K_X3_transfer 15 rfl) rfl (Nat.le_of_ble_eq_true rfl) rfl ?_
      refine x_iincW (L' := [some (vR _), some (vR _), some (vI _), some (vI _), some (vI _), some (vI _)]) (tk K_X3_transfer 16 rfl) rfl ic_1 rfl (Nat.le_of_ble_eq_true rfl) rfl ?_
      refine x_goto (t := 6) (tk K_X3_transfer 17 rfl) rfl ?_
      exact h

theorem e_X3_transfer {X : Cx} {d kc ns : Nat} {M : Mem} {Q : Option AV → Mem → Prop} {a0 : Nat} {a1 : Nat} {a2 : Int32} {a3 : Int32} (h : WA X d kc ns m_X3_transfer 0 [some (vR a0), some (vR a1), some (vI a2), some (vI a3), none, none] [] M Q) : Cl X d kc ns m_X3_transfer [vR a0, vR a1, vI a2, vI a3] M Q := Cl.intro (k := 2) (by decide) rfl rfl h

-- TwoPencils$Land.rollOfCuts(LTwoPencils$Cutter;)LTwoPencils$Roll;
theorem b_X3_rollOfCuts_0 {X : Cx} {d kc ns : Nat} {M : Mem} {Q : Option AV → Mem → Prop} {l0 : Nat} {l1 : Nat} (hS : LaS M l0) (hd : 1 ≤ d)
    (h : ((¬ (mI M (l0 + 9) 3) = nI 0 → Q (some (vR (l0 + 9))) M) ∧ ((mI M (l0 + 9) 3) = nI 0 → ∃ kb1 nb1 : Nat, kb1 ≤ kc ∧ nb1 ≤ ns ∧ Cl X (d - 1) kb1 nb1 m_X8_makeRoom [vR (l0 + 9), vI (mI M l0 0), vI (mI M l0 1)] M (fun r M1 => r = none ∧ Ext M M1 ∧ CuS M1 l1 ∧ Cl X (d - 1) 0 0 m_X0_begin [vR l1, vR (l0 + 8), vI (mI M1 l0 0), vI (mI M1 l0 4), vI (mI M1 l0 1)] M1 (fun r M2 => r = none ∧ Ext M1 M2 ∧ WA X d (kc - kb1) (ns - nb1) m_X3_rollOfCuts 47 [some (vR l0), some (vR l1), some (vI (nI 0)), none] [] M2 Q))))) :
    WA X d kc ns m_X3_rollOfCuts 0 [some (vR l0), some (vR l1), none, none] [] M Q := by
  refine x_aload_n (tk K_X3_rollOfCuts 0 rfl) rfl rfl ?_
  refine x_getRc (tk K_X3_rollOfCuts 1 rfl) f_X3_77 rfl (LaS.o hS) (LaS.r13 hS) ?_
  refine x_getI (tk K_X3_rollOfCuts 2 rfl) f_X3_102 rfl (RoS.o (LaS.k13 hS)) ?_
  refine x_if_ne (t := 109) (tk K_X3_rollOfCuts 3 rfl) rfl (fun hc => ?_) (fun hc => ?_)
  · have h := h.1 hc
    refine x_aload_n (tk K_X3_rollOfCuts 56 rfl) rfl rfl ?_
    refine x_getRc (tk K_X3_rollOfCuts 57 rfl) f_X3_77 rfl (LaS.o hS) (LaS.r13 hS) ?_
    exact x_areturn (tk K_X3_rollOfCuts 58 rfl) rfl (Or.inl ⟨_, rfl⟩) h
  · have h := h.2 hc
    refine x_aload_n (tk K_X3_rollOfCuts 4 rfl) rfl rfl ?_
    refine x_getRc (tk K_X3_rollOfCuts 5 rfl) f_X3_77 rfl (LaS.o hS) (LaS.r13 hS) ?_
    refine x_aload_n (tk K_X3_rollOfCuts 6 rfl) rfl rfl ?_
    refine x_getI (tk K_X3_rollOfCuts 7 rfl) f_X3_28 rfl (LaS.o hS) ?_
    refine x_aload_n (tk K_X3_rollOfCuts 8 rfl) rfl rfl ?_
    refine x_getI (tk K_X3_rollOfCuts 9 rfl) f_X3_32 rfl (LaS.o hS) ?_
    obtain ⟨kb1, nb1, hk1, hn1, h⟩ := h
    refine x_callV (As := [vI _, vI _]) (S := []) (tk K_X3_rollOfCuts 10 rfl) mk_X3_178 mo_X8_makeRoom (RoS.o (LaS.k13 hS)) rfl rfl (Nat.le_of_ble_eq_true rfl) hd hk1 hn1 h (fun r M1 hq => ?_)
    obtain ⟨rfl, hE, h⟩ := hq
    have hT0 := LaS.ext hS hE
    have hT1 := RoS.ext (LaS.k13 hS) hE
    refine x_aload_n (tk K_X3_rollOfCuts 11 rfl) rfl rfl ?_
    refine x_aload_n (tk K_X3_rollOfCuts 12 rfl) rfl rfl ?_
    refine x_getRc (tk K_X3_rollOfCuts 13 rfl) f_X3_71 rfl (LaS.o hT0) (LaS.r11 hT0) ?_
    refine x_aload_n (tk K_X3_rollOfCuts 14 rfl) rfl rfl ?_
    refine x_getI (tk K_X3_rollOfCuts 15 rfl) f_X3_28 rfl (LaS.o hT0) ?_
    refine x_aload_n (tk K_X3_rollOfCuts 16 rfl) rfl rfl ?_
    refine x_getI (tk K_X3_rollOfCuts 17 rfl) f_X3_41 rfl (LaS.o hT0) ?_
    refine x_aload_n (tk K_X3_rollOfCuts 18 rfl) rfl rfl ?_
    refine x_getI (tk K_X3_rollOfCuts 19 rfl) f_X3_32 rfl (LaS.o hT0) ?_
    have hS_3 := h.1
    have h := h.2
    refine x_callV0 (As := [vR _, vI _, vI _, vI _]) (S := []) (tk K_X3_rollOfCuts 20 rfl) mk_X3_182 mo_X0_begin (CuS.o hS_3) rfl rfl (Nat.le_of_ble_eq_true rfl) hd h (fun r M2 hq => ?_)
    obtain ⟨rfl, hE, h⟩ := hq
    have hT2 := LaS.ext hT0 hE
    have hT3 := RoS.ext hT1 hE
    have hT4 := CuS.ext hS_3 hE
    have hT5 := hE.1 _ _ _ (LaS.k11 hT0)
    refine x_iconst (tk K_X3_rollOfCuts 21 rfl) ic_0 ?_
    refine x_istore_n (L' := [some (vR _), some (vR _), some (vI _), none]) (tk K_X3_rollOfCuts 22 rfl) rfl rfl (Nat.le_of_ble_eq_true rfl) rfl ?_
    exact h

theorem b_X3_rollOfCuts_47 {X : Cx} {d kc ns : Nat} {M : Mem} {Q : Option AV → Mem → Prop} {l0 : Nat} {l1 : Nat} {l2 : Int32} (hS : LaS M l0) (hd : 1 ≤ d)
    (h : (((nI 1000000) ≤ l2 → WA X d kc ns m_X3_rollOfCuts 101 [some (vR l0), none, none, none] [] M Q) ∧ (¬ (nI 1000000) ≤ l2 → CuS M l1 ∧ Cl X (d - 1) 0 0 m_X0_next [vR l1] M (fun r M1 => ∃ x1 : Int32, r = some (vI x1) ∧ Ext M M1 ∧ ((x1 = nI 0 → WA X d kc ns m_X3_rollOfCuts 101 [some (vR l0), none, none, none] [] M1 Q) ∧ (¬ x1 = nI 0 → Cl X (d - 1) 0 0 m_X0_number [vR l1, vI (nI 2)] M1 (fun r M2 => ∃ x2 : Int32, r = some (vI x2) ∧ Ext M1 M2 ∧ Cl X (d - 1) 0 0 m_X3_wins [vR l0, vR (l1 + 1), vI (nI 0)] M2 (fun r M3 => ∃ x3 : Int32, r = some (vI x3) ∧ Ext M2 M3 ∧ Cl X (d - 1) 0 0 m_X3_wins [vR l0, vR (l1 + 1), vI (nI 1)] M3 (fun r M4 => ∃ x4 : Int32, r = some (vI x4) ∧ Ext M3 M4 ∧ Cl X (d - 1) 0 0 m_X3_wins [vR l0, vR (l1 + 1), vI (nI 2)] M4 (fun r M5 => ∃ x5 : Int32, r = some (vI x5) ∧ Ext M4 M5 ∧ Cl X (d - 1) 0 0 m_X8_enter [vR (l0 + 9), vI x2, vI x3, vI x4, vI x5] M5 (fun r M6 => r = none ∧ Ext M5 M6 ∧ WA X d kc ns m_X3_rollOfCuts 47 [some (vR l0), some (vR l1), some (vI (l2 + (nI 1))), none] [] M6 Q))))))))))) :
    WA X d kc ns m_X3_rollOfCuts 47 [some (vR l0), some (vR l1), some (vI l2), none] [] M Q := by
  refine x_iload_n (tk K_X3_rollOfCuts 23 rfl) rfl rfl ?_
  refine x_ldc (tk K_X3_rollOfCuts 24 rfl) kc_X3_188 ?_
  refine x_icmp_ge (t := 101) (tk K_X3_rollOfCuts 25 rfl) rfl (fun hc => ?_) (fun hc => ?_)
  · have h := h.1 hc
    refine x_msk [true, false, false, false] ?_
    exact h
  · have h := h.2 hc
    refine x_aload_n (tk K_X3_rollOfCuts 26 rfl) rfl rfl ?_
    have hS_2 := h.1
    have h := h.2
    refine x_callV0 (As := []) (S := []) (tk K_X3_rollOfCuts 27 rfl) mk_X3_189 mo_X0_next (CuS.o hS_2) rfl rfl (Nat.le_of_ble_eq_true rfl) hd h (fun r M1 hq => ?_)
    obtain ⟨x1, rfl, hE, h⟩ := hq
    have hT0 := LaS.ext hS hE
    have hT1 := CuS.ext hS_2 hE
    refine x_if_eq (t := 101) (tk K_X3_rollOfCuts 28 rfl) rfl (fun hc => ?_) (fun hc => ?_)
    · have h := h.1 hc
      refine x_msk [true, false, false, false] ?_
      exact h
    · have h := h.2 hc
      refine x_aload_n (tk K_X3_rollOfCuts 29 rfl) rfl rfl ?_
      refine x_getRc (tk K_X3_rollOfCuts 30 rfl) f_X3_193 rfl (CuS.o hT1) (CuS.r0 hT1) ?_
      refine x_astore_n (L' := [some (vR _), some (vR _), some (vI _), some (vR _)]) (tk K_X3_rollOfCuts 31 rfl) rfl rfl (Nat.le_of_ble_eq_true rfl) rfl ?_
      refine x_aload_n (tk K_X3_rollOfCuts 32 rfl) rfl rfl ?_
      refine x_getRc (tk K_X3_rollOfCuts 33 rfl) f_X3_77 rfl (LaS.o hT0) (LaS.r13 hT0) ?_
      refine x_aload_n (tk K_X3_rollOfCuts 34 rfl) rfl rfl ?_
      refine x_iconst (tk K_X3_rollOfCuts 35 rfl) ic_2 ?_
      refine x_callV0 (As := [vI _]) (S := [vR _]) (tk K_X3_rollOfCuts 36 rfl) mk_X3_196 mo_X0_number (CuS.o hT1) rfl rfl (Nat.le_of_ble_eq_true rfl) hd h (fun r M2 hq => ?_)
      obtain ⟨x2, rfl, hE, h⟩ := hq
      have hT2 := LaS.ext hT0 hE
      have hT3 := CuS.ext hT1 hE
      have hT4 := RoS.ext (LaS.k13 hT0) hE
      have hT5 := hE.1 _ _ _ (CuS.k0 hT1)
      refine x_aload_n (tk K_X3_rollOfCuts 37 rfl) rfl rfl ?_
      refine x_aload_n (tk K_X3_rollOfCuts 38 rfl) rfl rfl ?_
      refine x_iconst (tk K_X3_rollOfCuts 39 rfl) ic_0 ?_
      refine x_callV0 (As := [vR _, vI _]) (S := [vI _, vR _]) (tk K_X3_rollOfCuts 40 rfl) mk_X3_199 mo_X3_wins (LaS.o hT2) rfl rfl (Nat.le_of_ble_eq_true rfl) hd h (fun r M3 hq => ?_)
      obtain ⟨x3, rfl, hE, h⟩ := hq
      have hT6 := LaS.ext hT2 hE
      have hT7 := CuS.ext hT3 hE
      have hT8 := RoS.ext hT4 hE
      have hT9 := hE.1 _ _ _ hT5
      refine x_aload_n (tk K_X3_rollOfCuts 41 rfl) rfl rfl ?_
      refine x_aload_n (tk K_X3_rollOfCuts 42 rfl) rfl rfl ?_
      refine x_iconst (tk K_X3_rollOfCuts 43 rfl) ic_1 ?_
      refine x_callV0 (As := [vR _, vI _]) (S := [vI _, vI _, vR _]) (tk K_X3_rollOfCuts 44 rfl) mk_X3_199 mo_X3_wins (LaS.o hT6) rfl rfl (Nat.le_of_ble_eq_true rfl) hd h (fun r M4 hq => ?_)
      obtain ⟨x4, rfl, hE, h⟩ := hq
      have hT10 := LaS.ext hT6 hE
      have hT11 := CuS.ext hT7 hE
      have hT12 := RoS.ext hT8 hE
      have hT13 := hE.1 _ _ _ hT9
      refine x_aload_n (tk K_X3_rollOfCuts 45 rfl) rfl rfl ?_
      refine x_aload_n (tk K_X3_rollOfCuts 46 rfl) rfl rfl ?_
      refine x_iconst (tk K_X3_rollOfCuts 47 rfl) ic_2 ?_
      refine x_callV0 (As := [vR _, vI _]) (S := [vI _, vI _, vI _, vR _]) (tk K_X3_rollOfCuts 48 rfl) mk_X3_199 mo_X3_wins (LaS.o hT10) rfl rfl (Nat.le_of_ble_eq_true rfl) hd h (fun r M5 hq => ?_)
      obtain ⟨x5, rfl, hE, h⟩ := hq
      have hT14 := LaS.ext hT10 hE
      have hT15 := CuS.ext hT11 hE
      have hT16 := RoS.ext hT12 hE
      have hT17 := hE.1 _ _ _ hT13
      refine x_callV0 (As := [vI _, vI _, vI _, vI _]) (S := []) (tk K_X3_rollOfCuts 49 rfl) mk_X3_203 mo_X8_enter (RoS.o hT16) rfl rfl (Nat.le_of_ble_eq_true rfl) hd h (fun r M6 hq => ?_)
      obtain ⟨rfl, hE, h⟩ := hq
      have hT18 := LaS.ext hT14 hE
      have hT19 := CuS.ext hT15 hE
      have hT20 := RoS.ext hT16 hE
      have hT21 := hE.1 _ _ _ hT17
      refine x_iincW (L' := [some (vR _), some (vR _), some (vI _), some (vR _)]) (tk K_X3_rollOfCuts 50 rfl) rfl ic_1 rfl (Nat.le_of_ble_eq_true rfl) rfl ?_
      refine x_goto (t := 47) (tk K_X3_rollOfCuts 51 rfl) rfl ?_
      refine x_msk [true, true, true, false] ?_
      exact h

theorem b_X3_rollOfCuts_101 {X : Cx} {d kc ns : Nat} {M : Mem} {Q : Option AV → Mem → Prop} {l0 : Nat} (hS : LaS M l0)
    (h : ∀ M1 : Mem, M1 = sI M (l0 + 9) 3 (nI 1) → Q (some (vR (l0 + 9))) M1) :
    WA X d kc ns m_X3_rollOfCuts 101 [some (vR l0), none, none, none] [] M Q := by
  refine x_aload_n (tk K_X3_rollOfCuts 52 rfl) rfl rfl ?_
  refine x_getRc (tk K_X3_rollOfCuts 53 rfl) f_X3_77 rfl (LaS.o hS) (LaS.r13 hS) ?_
  refine x_iconst (tk K_X3_rollOfCuts 54 rfl) ic_1 ?_
  have h := h _ rfl
  refine x_putZ (tk K_X3_rollOfCuts 55 rfl) f_X3_102 rfl (Or.inl rfl) (RoS.o (LaS.k13 hS)) (Or.inr rfl) ?_
  refine x_aload_n (tk K_X3_rollOfCuts 56 rfl) rfl rfl ?_
  refine x_getRc (tk K_X3_rollOfCuts 57 rfl) f_X3_77 rfl (LaS.o hS) (LaS.r13 hS) ?_
  exact x_areturn (tk K_X3_rollOfCuts 58 rfl) rfl (Or.inl ⟨_, rfl⟩) h

theorem e_X3_rollOfCuts {X : Cx} {d kc ns : Nat} {M : Mem} {Q : Option AV → Mem → Prop} {a0 : Nat} {a1 : Nat} (h : WA X d kc ns m_X3_rollOfCuts 0 [some (vR a0), some (vR a1), none, none] [] M Q) : Cl X d kc ns m_X3_rollOfCuts [vR a0, vR a1] M Q := Cl.intro (k := 2) (by decide) rfl rfl h
