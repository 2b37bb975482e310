-- TwoPencils.<init>()V
theorem b_X10_init_0 {X : Cx} {d kc ns : Nat} {M : Mem} {Q : Option AV → Mem → Prop} {l0 : Nat} (hS : isK M l0 10 18) (hd : 1 ≤ d)
    (h : 1 ≤ kc ∧ 4 ≤ ns ∧ ∀ M1 : Mem, M1 = nw M 9 4 → ∃ kb1 nb1 : Nat, kb1 ≤ (kc - 1) ∧ nb1 ≤ (ns - 4) ∧ Cl X (d - 1) kb1 nb1 m_X9_init [vR (nx M)] M1 (fun r M2 => r = none ∧ isK M2 l0 10 18 ∧ ∀ M3 : Mem, M3 = sR M2 l0 0 (nx M) → 1 ≤ ((kc - 1) - kb1) ∧ 7 ≤ ((ns - 4) - nb1) ∧ ∀ M4 : Mem, M4 = nw M3 4 7 → ∃ kb2 nb2 : Nat, kb2 ≤ (((kc - 1) - kb1) - 1) ∧ nb2 ≤ (((ns - 4) - nb1) - 7) ∧ Cl X (d - 1) kb2 nb2 m_X4_init [vR (nx M3)] M4 (fun r M5 => r = none ∧ isK M5 l0 10 18 ∧ ∀ M6 : Mem, M6 = sR M5 l0 1 (nx M3) → 1 ≤ ((((kc - 1) - kb1) - 1) - kb2) ∧ 3 ≤ ((((ns - 4) - nb1) - 7) - nb2) ∧ ∀ M7 : Mem, M7 = nw M6 7 3 → ∃ kb3 nb3 : Nat, kb3 ≤ (((((kc - 1) - kb1) - 1) - kb2) - 1) ∧ nb3 ≤ (((((ns - 4) - nb1) - 7) - nb2) - 3) ∧ Cl X (d - 1) kb3 nb3 m_X7_init [vR (nx M6)] M7 (fun r M8 => r = none ∧ isK M8 l0 10 18 ∧ ∀ M9 : Mem, M9 = sR M8 l0 2 (nx M6) → vp_in (nI 6) 65536 ∧ 1 ≤ ((((((kc - 1) - kb1) - 1) - kb2) - 1) - kb3) ∧ ix (nI 6) ≤ ((((((ns - 4) - nb1) - 7) - nb2) - 3) - nb3) ∧ ∀ M10 : Mem, M10 = nw M9 18 (ix (nI 6)) → ∀ M11 : Mem, M11 = sR M10 l0 3 (nx M9) → vp_in (nI 8) 65536 ∧ 1 ≤ (((((((kc - 1) - kb1) - 1) - kb2) - 1) - kb3) - 1) ∧ ix (nI 8) ≤ (((((((ns - 4) - nb1) - 7) - nb2) - 3) - nb3) - ix (nI 6)) ∧ ∀ M12 : Mem, M12 = nw M11 19 (ix (nI 8)) → ∀ M13 : Mem, M13 = sR M12 l0 4 (nx M11) → vp_in (nI 8) 65536 ∧ 1 ≤ ((((((((kc - 1) - kb1) - 1) - kb2) - 1) - kb3) - 1) - 1) ∧ ix (nI 8) ≤ ((((((((ns - 4) - nb1) - 7) - nb2) - 3) - nb3) - ix (nI 6)) - ix (nI 8)) ∧ ∀ M14 : Mem, M14 = nw M13 17 (ix (nI 8)) → ∀ M15 : Mem, M15 = sR M14 l0 5 (nx M13) → ∀ M16 : Mem, M16 = sI M15 l0 6 (nI 0) → ∀ M17 : Mem, M17 = sI M16 l0 7 (nI 0) → ∀ M18 : Mem, M18 = sI M17 l0 8 (nI 0) → 1 ≤ (((((((((kc - 1) - kb1) - 1) - kb2) - 1) - kb3) - 1) - 1) - 1) ∧ 16 ≤ (((((((((ns - 4) - nb1) - 7) - nb2) - 3) - nb3) - ix (nI 6)) - ix (nI 8)) - ix (nI 8)) ∧ ∀ M19 : Mem, M19 = nw M18 3 16 → ∃ kb4 nb4 : Nat, kb4 ≤ ((((((((((kc - 1) - kb1) - 1) - kb2) - 1) - kb3) - 1) - 1) - 1) - 1) ∧ nb4 ≤ ((((((((((ns - 4) - nb1) - 7) - nb2) - 3) - nb3) - ix (nI 6)) - ix (nI 8)) - ix (nI 8)) - 16) ∧ Cl X (d - 1) kb4 nb4 m_X3_init [vR (nx M18), vR (mR M19 l0 1)] M19 (fun r M20 => r = none ∧ isK M20 l0 10 18 ∧ ∀ M21 : Mem, M21 = sR M20 l0 9 (nx M18) → 1 ≤ (((((((((((kc - 1) - kb1) - 1) - kb2) - 1) - kb3) - 1) - 1) - 1) - 1) - kb4) ∧ 2 ≤ (((((((((((ns - 4) - nb1) - 7) - nb2) - 3) - nb3) - ix (nI 6)) - ix (nI 8)) - ix (nI 8)) - 16) - nb4) ∧ ∀ M22 : Mem, M22 = nw M21 6 2 → ∃ kb5 nb5 : Nat, kb5 ≤ ((((((((((((kc - 1) - kb1) - 1) - kb2) - 1) - kb3) - 1) - 1) - 1) - 1) - kb4) - 1) ∧ nb5 ≤ ((((((((((((ns - 4) - nb1) - 7) - nb2) - 3) - nb3) - ix (nI 6)) - ix (nI 8)) - ix (nI 8)) - 16) - nb4) - 2) ∧ Cl X (d - 1) kb5 nb5 m_X6_init [vR (nx M21), vR (mR M22 l0 2)] M22 (fun r M23 => r = none ∧ isK M23 l0 10 18 ∧ ∀ M24 : Mem, M24 = sR M23 l0 10 (nx M21) → 1 ≤ (((((((((((((kc - 1) - kb1) - 1) - kb2) - 1) - kb3) - 1) - 1) - 1) - 1) - kb4) - 1) - kb5) ∧ 9 ≤ (((((((((((((ns - 4) - nb1) - 7) - nb2) - 3) - nb3) - ix (nI 6)) - ix (nI 8)) - ix (nI 8)) - 16) - nb4) - 2) - nb5) ∧ ∀ M25 : Mem, M25 = nw M24 0 9 → ∃ kb6 nb6 : Nat, kb6 ≤ ((((((((((((((kc - 1) - kb1) - 1) - kb2) - 1) - kb3) - 1) - 1) - 1) - 1) - kb4) - 1) - kb5) - 1) ∧ nb6 ≤ ((((((((((((((ns - 4) - nb1) - 7) - nb2) - 3) - nb3) - ix (nI 6)) - ix (nI 8)) - ix (nI 8)) - 16) - nb4) - 2) - nb5) - 9) ∧ Cl X (d - 1) kb6 nb6 m_X0_init [vR (nx M24)] M25 (fun r M26 => r = none ∧ isK M26 l0 10 18 ∧ ∀ M27 : Mem, M27 = sR M26 l0 11 (nx M24) → 1 ≤ (((((((((((((((kc - 1) - kb1) - 1) - kb2) - 1) - kb3) - 1) - 1) - 1) - 1) - kb4) - 1) - kb5) - 1) - kb6) ∧ 8 ≤ (((((((((((((((ns - 4) - nb1) - 7) - nb2) - 3) - nb3) - ix (nI 6)) - ix (nI 8)) - ix (nI 8)) - 16) - nb4) - 2) - nb5) - 9) - nb6) ∧ ∀ M28 : Mem, M28 = nw M27 2 8 → ∃ kb7 nb7 : Nat, kb7 ≤ ((((((((((((((((kc - 1) - kb1) - 1) - kb2) - 1) - kb3) - 1) - 1) - 1) - 1) - kb4) - 1) - kb5) - 1) - kb6) - 1) ∧ nb7 ≤ ((((((((((((((((ns - 4) - nb1) - 7) - nb2) - 3) - nb3) - ix (nI 6)) - ix (nI 8)) - ix (nI 8)) - 16) - nb4) - 2) - nb5) - 9) - nb6) - 8) ∧ Cl X (d - 1) kb7 nb7 m_X2_init [vR (nx M27), vR (mR M28 l0 9)] M28 (fun r M29 => r = none ∧ isK M29 l0 10 18 ∧ ∀ M30 : Mem, M30 = sR M29 l0 12 (nx M27) → 1 ≤ (((((((((((((((((kc - 1) - kb1) - 1) - kb2) - 1) - kb3) - 1) - 1) - 1) - 1) - kb4) - 1) - kb5) - 1) - kb6) - 1) - kb7) ∧ 10 ≤ (((((((((((((((((ns - 4) - nb1) - 7) - nb2) - 3) - nb3) - ix (nI 6)) - ix (nI 8)) - ix (nI 8)) - 16) - nb4) - 2) - nb5) - 9) - nb6) - 8) - nb7) ∧ ∀ M31 : Mem, M31 = nw M30 5 10 → ∃ kb8 nb8 : Nat, kb8 ≤ ((((((((((((((((((kc - 1) - kb1) - 1) - kb2) - 1) - kb3) - 1) - 1) - 1) - 1) - kb4) - 1) - kb5) - 1) - kb6) - 1) - kb7) - 1) ∧ nb8 ≤ ((((((((((((((((((ns - 4) - nb1) - 7) - nb2) - 3) - nb3) - ix (nI 6)) - ix (nI 8)) - ix (nI 8)) - 16) - nb4) - 2) - nb5) - 9) - nb6) - 8) - nb7) - 10) ∧ Cl X (d - 1) kb8 nb8 m_X5_init [vR (nx M30), vR (mR M31 l0 12), vR (mR M31 l0 9), vR (mR M31 l0 10)] M31 (fun r M32 => r = none ∧ isK M32 l0 10 18 ∧ ∀ M33 : Mem, M33 = sR M32 l0 13 (nx M30) → 1 ≤ (((((((((((((((((((kc - 1) - kb1) - 1) - kb2) - 1) - kb3) - 1) - 1) - 1) - 1) - kb4) - 1) - kb5) - 1) - kb6) - 1) - kb7) - 1) - kb8) ∧ 16 ≤ (((((((((((((((((((ns - 4) - nb1) - 7) - nb2) - 3) - nb3) - ix (nI 6)) - ix (nI 8)) - ix (nI 8)) - 16) - nb4) - 2) - nb5) - 9) - nb6) - 8) - nb7) - 10) - nb8) ∧ ∀ M34 : Mem, M34 = nw M33 1 16 → ∃ kb9 nb9 : Nat, kb9 ≤ ((((((((((((((((((((kc - 1) - kb1) - 1) - kb2) - 1) - kb3) - 1) - 1) - 1) - 1) - kb4) - 1) - kb5) - 1) - kb6) - 1) - kb7) - 1) - kb8) - 1) ∧ nb9 ≤ ((((((((((((((((((((ns - 4) - nb1) - 7) - nb2) - 3) - nb3) - ix (nI 6)) - ix (nI 8)) - ix (nI 8)) - 16) - nb4) - 2) - nb5) - 9) - nb6) - 8) - nb7) - 10) - nb8) - 16) ∧ Cl X (d - 1) kb9 nb9 m_X1_init [vR (nx M33), vR (mR M34 l0 11), vR (mR M34 l0 12), vR (mR M34 l0 9), vR (mR M34 l0 10)] M34 (fun r M35 => r = none ∧ isK M35 l0 10 18 ∧ ∀ M36 : Mem, M36 = sR M35 l0 14 (nx M33) → vp_in (nI 240) 65536 ∧ 1 ≤ (((((((((((((((((((((kc - 1) - kb1) - 1) - kb2) - 1) - kb3) - 1) - 1) - 1) - 1) - kb4) - 1) - kb5) - 1) - kb6) - 1) - kb7) - 1) - kb8) - 1) - kb9) ∧ ix (nI 240) ≤ (((((((((((((((((((((ns - 4) - nb1) - 7) - nb2) - 3) - nb3) - ix (nI 6)) - ix (nI 8)) - ix (nI 8)) - 16) - nb4) - 2) - nb5) - 9) - nb6) - 8) - nb7) - 10) - nb8) - 16) - nb9) ∧ ∀ M37 : Mem, M37 = nw M36 14 (ix (nI 240)) → ∀ M38 : Mem, M38 = sR M37 l0 15 (nx M36) → vp_in (nI 8) 65536 ∧ 1 ≤ ((((((((((((((((((((((kc - 1) - kb1) - 1) - kb2) - 1) - kb3) - 1) - 1) - 1) - 1) - kb4) - 1) - kb5) - 1) - kb6) - 1) - kb7) - 1) - kb8) - 1) - kb9) - 1) ∧ ix (nI 8) ≤ ((((((((((((((((((((((ns - 4) - nb1) - 7) - nb2) - 3) - nb3) - ix (nI 6)) - ix (nI 8)) - ix (nI 8)) - 16) - nb4) - 2) - nb5) - 9) - nb6) - 8) - nb7) - 10) - nb8) - 16) - nb9) - ix (nI 240)) ∧ ∀ M39 : Mem, M39 = nw M38 14 (ix (nI 8)) → ∀ M40 : Mem, M40 = sR M39 l0 16 (nx M38) → vp_in (nI 8) 65536 ∧ 1 ≤ (((((((((((((((((((((((kc - 1) - kb1) - 1) - kb2) - 1) - kb3) - 1) - 1) - 1) - 1) - kb4) - 1) - kb5) - 1) - kb6) - 1) - kb7) - 1) - kb8) - 1) - kb9) - 1) - 1) ∧ ix (nI 8) ≤ (((((((((((((((((((((((ns - 4) - nb1) - 7) - nb2) - 3) - nb3) - ix (nI 6)) - ix (nI 8)) - ix (nI 8)) - 16) - nb4) - 2) - nb5) - 9) - nb6) - 8) - nb7) - 10) - nb8) - 16) - nb9) - ix (nI 240)) - ix (nI 8)) ∧ ∀ M41 : Mem, M41 = nw M40 14 (ix (nI 8)) → ∀ M42 : Mem, M42 = sR M41 l0 17 (nx M40) → Cl X (d - 1) 0 0 m_J7_fill_53178 [vR (mR M42 l0 15), vI (-1000)] M42 (fun r M43 => r = none ∧ Ext M42 M43 ∧ Q none M43))))))))))) :
    WA X d kc ns m_X10_init 0 [some (vR l0)] [] M Q := by
  refine x_aload_n (tk K_X10_init 0 rfl) rfl rfl ?_
  refine x_objInit (tk K_X10_init 1 rfl) oi_X10_1 oi_in oi_code hS (by decide) hd ?_
  refine x_aload_n (tk K_X10_init 2 rfl) rfl rfl ?_
  have hk := h.1
  have hn := h.2.1
  have h := h.2.2
  refine x_new (ci := 9) (N := 4) (tk K_X10_init 3 rfl) (by decide) rfl cl_X10_7 in_9 ii_9 hk hn ?_
  refine WA_nm (fun M1 e_M1 => ?_)
  have h := h M1 e_M1
  have hT1 : isK M1 l0 10 18 := by rw [e_M1]; exact (isK_nw_old hS)
  have hT2 : isK M1 (nx M) 9 4 := by rw [e_M1]; exact isK_nw
  refine x_dup (tk K_X10_init 4 rfl) rfl ?_
  obtain ⟨kb1, nb1, hk1, hn1, h⟩ := h
  refine x_callI (As := []) (S := [vR _, vR _]) (tk K_X10_init 5 rfl) mk_X10_9 mo_X9_init hT2 rfl rfl (Nat.le_of_ble_eq_true rfl) hd hk1 hn1 h (fun r M2 hq => ?_)
  obtain ⟨rfl, h⟩ := hq
  have hO_0 := h.1
  have h := h.2
  refine x_putR (tk K_X10_init 6 rfl) f_X10_10 rfl rfl (Or.inr ⟨rfl, rfl, rfl, l_X10_10⟩) hO_0 ?_
  refine WA_nm (fun M3 e_M3 => ?_)
  have h := h M3 e_M3
  have hT3 : isK M3 l0 10 18 := by rw [e_M3]; exact hO_0
  refine x_aload_n (tk K_X10_init 7 rfl) rfl rfl ?_
  have hk := h.1
  have hn := h.2.1
  have h := h.2.2
  refine x_new (ci := 4) (N := 7) (tk K_X10_init 8 rfl) (by decide) rfl cl_X10_16 in_4 ii_4 hk hn ?_
  refine WA_nm (fun M4 e_M4 => ?_)
  have h := h M4 e_M4
  have hT5 : isK M4 l0 10 18 := by rw [e_M4]; exact (isK_nw_old hT3)
  have hT6 : isK M4 (nx M3) 4 7 := by rw [e_M4]; exact isK_nw
  refine x_dup (tk K_X10_init 9 rfl) rfl ?_
  obtain ⟨kb2, nb2, hk1, hn1, h⟩ := h
  refine x_callI (As := []) (S := [vR _, vR _]) (tk K_X10_init 10 rfl) mk_X10_18 mo_X4_init hT6 rfl rfl (Nat.le_of_ble_eq_true rfl) hd hk1 hn1 h (fun r M5 hq => ?_)
  obtain ⟨rfl, h⟩ := hq
  have hO_1 := h.1
  have h := h.2
  refine x_putR (tk K_X10_init 11 rfl) f_X10_19 rfl rfl (Or.inr ⟨rfl, rfl, rfl, l_X10_19⟩) hO_1 ?_
  refine WA_nm (fun M6 e_M6 => ?_)
  have h := h M6 e_M6
  have hT7 : isK M6 l0 10 18 := by rw [e_M6]; exact hO_1
  refine x_aload_n (tk K_X10_init 12 rfl) rfl rfl ?_
  have hk := h.1
  have hn := h.2.1
  have h := h.2.2
  refine x_new (ci := 7) (N := 3) (tk K_X10_init 13 rfl) (by decide) rfl cl_X10_23 in_7 ii_7 hk hn ?_
  refine WA_nm (fun M7 e_M7 => ?_)
  have h := h M7 e_M7
  have hT9 : isK M7 l0 10 18 := by rw [e_M7]; exact (isK_nw_old hT7)
  have hT10 : isK M7 (nx M6) 7 3 := by rw [e_M7]; exact isK_nw
  refine x_dup (tk K_X10_init 14 rfl) rfl ?_
  obtain ⟨kb3, nb3, hk1, hn1, h⟩ := h
  refine x_callI (As := []) (S := [vR _, vR _]) (tk K_X10_init 15 rfl) mk_X10_25 mo_X7_init hT10 rfl rfl (Nat.le_of_ble_eq_true rfl) hd hk1 hn1 h (fun r M8 hq => ?_)
  obtain ⟨rfl, h⟩ := hq
  have hO_2 := h.1
  have h := h.2
  refine x_putR (tk K_X10_init 16 rfl) f_X10_26 rfl rfl (Or.inr ⟨rfl, rfl, rfl, l_X10_26⟩) hO_2 ?_
  refine WA_nm (fun M9 e_M9 => ?_)
  have h := h M9 e_M9
  have hT11 : isK M9 l0 10 18 := by rw [e_M9]; exact hO_2
  refine x_aload_n (tk K_X10_init 17 rfl) rfl rfl ?_
  refine x_bipush (tk K_X10_init 18 rfl) bp_6 ?_
  have hx := h.1
  have hk := h.2.1
  have hn := h.2.2.1
  have h := h.2.2.2
  refine x_anew (k := 18) (ci := 3) (tk K_X10_init 19 rfl) (by decide) cl_X10_30 ao_18 hx hk hn ?_
  refine WA_nm (fun M10 e_M10 => ?_)
  have h := h M10 e_M10
  have hT13 : isK M10 (nx M9) 18 (ix (nI 6)) := by rw [e_M10]; exact isK_nw
  have hT14 : isK M10 l0 10 18 := by rw [e_M10]; exact (isK_nw_old hT11)
  refine x_putR (tk K_X10_init 20 rfl) f_X10_32 rfl rfl (Or.inr ⟨rfl, rfl, rfl, l_X10_32⟩) hT14 ?_
  refine WA_nm (fun M11 e_M11 => ?_)
  have h := h M11 e_M11
  have hT15 : isK M11 l0 10 18 := by rw [e_M11]; exact hT14
  refine x_aload_n (tk K_X10_init 21 rfl) rfl rfl ?_
  refine x_bipush (tk K_X10_init 22 rfl) bp_8 ?_
  have hx := h.1
  have hk := h.2.1
  have hn := h.2.2.1
  have h := h.2.2.2
  refine x_anew (k := 19) (ci := 6) (tk K_X10_init 23 rfl) (by decide) cl_X10_36 ao_19 hx hk hn ?_
  refine WA_nm (fun M12 e_M12 => ?_)
  have h := h M12 e_M12
  have hT17 : isK M12 (nx M11) 19 (ix (nI 8)) := by rw [e_M12]; exact isK_nw
  have hT18 : isK M12 l0 10 18 := by rw [e_M12]; exact (isK_nw_old hT15)
  refine x_putR (tk K_X10_init 24 rfl) f_X10_38 rfl rfl (Or.inr ⟨rfl, rfl, rfl, l_X10_38⟩) hT18 ?_
  refine WA_nm (fun M13 e_M13 => ?_)
  have h := h M13 e_M13
  have hT19 : isK M13 l0 10 18 := by rw [e_M13]; exact hT18
  refine x_aload_n (tk K_X10_init 25 rfl) rfl rfl ?_
  refine x_bipush (tk K_X10_init 26 rfl) bp_8 ?_
  have hx := h.1
  have hk := h.2.1
  have hn := h.2.2.1
  have h := h.2.2.2
  refine x_anew (k := 17) (ci := 1) (tk K_X10_init 27 rfl) (by decide) cl_X10_42 ao_17 hx hk hn ?_
  refine WA_nm (fun M14 e_M14 => ?_)
  have h := h M14 e_M14
  have hT21 : isK M14 (nx M13) 17 (ix (nI 8)) := by rw [e_M14]; exact isK_nw
  have hT22 : isK M14 l0 10 18 := by rw [e_M14]; exact (isK_nw_old hT19)
  refine x_putR (tk K_X10_init 28 rfl) f_X10_44 rfl rfl (Or.inr ⟨rfl, rfl, rfl, l_X10_44⟩) hT22 ?_
  refine WA_nm (fun M15 e_M15 => ?_)
  have h := h M15 e_M15
  have hT23 : isK M15 l0 10 18 := by rw [e_M15]; exact hT22
  refine x_aload_n (tk K_X10_init 29 rfl) rfl rfl ?_
  refine x_iconst (tk K_X10_init 30 rfl) ic_0 ?_
  refine x_putI (tk K_X10_init 31 rfl) f_X10_48 rfl (Or.inl rfl) hT23 ?_
  refine WA_nm (fun M16 e_M16 => ?_)
  have h := h M16 e_M16
  have hT24 : isK M16 l0 10 18 := by rw [e_M16]; exact hT23
  refine x_aload_n (tk K_X10_init 32 rfl) rfl rfl ?_
  refine x_iconst (tk K_X10_init 33 rfl) ic_0 ?_
  refine x_putI (tk K_X10_init 34 rfl) f_X10_52 rfl (Or.inl rfl) hT24 ?_
  refine WA_nm (fun M17 e_M17 => ?_)
  have h := h M17 e_M17
  have hT25 : isK M17 l0 10 18 := by rw [e_M17]; exact hT24
  refine x_aload_n (tk K_X10_init 35 rfl) rfl rfl ?_
  refine x_iconst (tk K_X10_init 36 rfl) ic_0 ?_
  refine x_putI (tk K_X10_init 37 rfl) f_X10_55 rfl (Or.inl rfl) hT25 ?_
  refine WA_nm (fun M18 e_M18 => ?_)
  have h := h M18 e_M18
  have hT26 : isK M18 l0 10 18 := by rw [e_M18]; exact hT25
  refine x_aload_n (tk K_X10_init 38 rfl) rfl rfl ?_
  have hk := h.1
  have hn := h.2.1
  have h := h.2.2
  refine x_new (ci := 3) (N := 16) (tk K_X10_init 39 rfl) (by decide) rfl cl_X10_30 in_3 ii_3 hk hn ?_
  refine WA_nm (fun M19 e_M19 => ?_)
  have h := h M19 e_M19
  have hT28 : isK M19 l0 10 18 := by rw [e_M19]; exact (isK_nw_old hT26)
  have hT29 : isK M19 (nx M18) 3 16 := by rw [e_M19]; exact isK_nw
  refine x_dup (tk K_X10_init 40 rfl) rfl ?_
  refine x_aload_n (tk K_X10_init 41 rfl) rfl rfl ?_
  refine x_getR (tk K_X10_init 42 rfl) f_X10_19 rfl hT28 ?_
  obtain ⟨kb4, nb4, hk1, hn1, h⟩ := h
  refine x_callI (As := [vR _]) (S := [vR _, vR _]) (tk K_X10_init 43 rfl) mk_X10_58 mo_X3_init hT29 rfl rfl (Nat.le_of_ble_eq_true rfl) hd hk1 hn1 h (fun r M20 hq => ?_)
  obtain ⟨rfl, h⟩ := hq
  have hO_3 := h.1
  have h := h.2
  refine x_putR (tk K_X10_init 44 rfl) f_X10_61 rfl rfl (Or.inr ⟨rfl, rfl, rfl, l_X10_61⟩) hO_3 ?_
  refine WA_nm (fun M21 e_M21 => ?_)
  have h := h M21 e_M21
  have hT30 : isK M21 l0 10 18 := by rw [e_M21]; exact hO_3
  refine x_aload_n (tk K_X10_init 45 rfl) rfl rfl ?_
  have hk := h.1
  have hn := h.2.1
  have h := h.2.2
  refine x_new (ci := 6) (N := 2) (tk K_X10_init 46 rfl) (by decide) rfl cl_X10_36 in_6 ii_6 hk hn ?_
  refine WA_nm (fun M22 e_M22 => ?_)
  have h := h M22 e_M22
  have hT32 : isK M22 l0 10 18 := by rw [e_M22]; exact (isK_nw_old hT30)
  have hT33 : isK M22 (nx M21) 6 2 := by rw [e_M22]; exact isK_nw
  refine x_dup (tk K_X10_init 47 rfl) rfl ?_
  refine x_aload_n (tk K_X10_init 48 rfl) rfl rfl ?_
  refine x_getR (tk K_X10_init 49 rfl) f_X10_26 rfl hT32 ?_
  obtain ⟨kb5, nb5, hk1, hn1, h⟩ := h
  refine x_callI (As := [vR _]) (S := [vR _, vR _]) (tk K_X10_init 50 rfl) mk_X10_65 mo_X6_init hT33 rfl rfl (Nat.le_of_ble_eq_true rfl) hd hk1 hn1 h (fun r M23 hq => ?_)
  obtain ⟨rfl, h⟩ := hq
  have hO_4 := h.1
  have h := h.2
  refine x_putR (tk K_X10_init 51 rfl) f_X10_68 rfl rfl (Or.inr ⟨rfl, rfl, rfl, l_X10_68⟩) hO_4 ?_
  refine WA_nm (fun M24 e_M24 => ?_)
  have h := h M24 e_M24
  have hT34 : isK M24 l0 10 18 := by rw [e_M24]; exact hO_4
  refine x_aload_n (tk K_X10_init 52 rfl) rfl rfl ?_
  have hk := h.1
  have hn := h.2.1
  have h := h.2.2
  refine x_new (ci := 0) (N := 9) (tk K_X10_init 53 rfl) (by decide) rfl cl_X10_72 in_0 ii_0 hk hn ?_
  refine WA_nm (fun M25 e_M25 => ?_)
  have h := h M25 e_M25
  have hT36 : isK M25 l0 10 18 := by rw [e_M25]; exact (isK_nw_old hT34)
  have hT37 : isK M25 (nx M24) 0 9 := by rw [e_M25]; exact isK_nw
  refine x_dup (tk K_X10_init 54 rfl) rfl ?_
  obtain ⟨kb6, nb6, hk1, hn1, h⟩ := h
  refine x_callI (As := []) (S := [vR _, vR _]) (tk K_X10_init 55 rfl) mk_X10_74 mo_X0_init hT37 rfl rfl (Nat.le_of_ble_eq_true rfl) hd hk1 hn1 h (fun r M26 hq => ?_)
  obtain ⟨rfl, h⟩ := hq
  have hO_5 := h.1
  have h := h.2
  refine x_putR (tk K_X10_init 56 rfl) f_X10_75 rfl rfl (Or.inr ⟨rfl, rfl, rfl, l_X10_75⟩) hO_5 ?_
  refine WA_nm (fun M27 e_M27 => ?_)
  have h := h M27 e_M27
  have hT38 : isK M27 l0 10 18 := by rw [e_M27]; exact hO_5
  refine x_aload_n (tk K_X10_init 57 rfl) rfl rfl ?_
  have hk := h.1
  have hn := h.2.1
  have h := h.2.2
  refine x_new (ci := 2) (N := 8) (tk K_X10_init 58 rfl) (by decide) rfl cl_X10_79 in_2 ii_2 hk hn ?_
  refine WA_nm (fun M28 e_M28 => ?_)
  have h := h M28 e_M28
  have hT40 : isK M28 l0 10 18 := by rw [e_M28]; exact (isK_nw_old hT38)
  have hT41 : isK M28 (nx M27) 2 8 := by rw [e_M28]; exact isK_nw
  refine x_dup (tk K_X10_init 59 rfl) rfl ?_
  refine x_aload_n (tk K_X10_init 60 rfl) rfl rfl ?_
  refine x_getR (tk K_X10_init 61 rfl) f_X10_61 rfl hT40 ?_
  obtain ⟨kb7, nb7, hk1, hn1, h⟩ := h
  refine x_callI (As := [vR _]) (S := [vR _, vR _]) (tk K_X10_init 62 rfl) mk_X10_81 mo_X2_init hT41 rfl rfl (Nat.le_of_ble_eq_true rfl) hd hk1 hn1 h (fun r M29 hq => ?_)
  obtain ⟨rfl, h⟩ := hq
  have hO_6 := h.1
  have h := h.2
  refine x_putR (tk K_X10_init 63 rfl) f_X10_84 rfl rfl (Or.inr ⟨rfl, rfl, rfl, l_X10_84⟩) hO_6 ?_
  refine WA_nm (fun M30 e_M30 => ?_)
  have h := h M30 e_M30
  have hT42 : isK M30 l0 10 18 := by rw [e_M30]; exact hO_6
  refine x_aload_n (tk K_X10_init 64 rfl) rfl rfl ?_
  have hk := h.1
  have hn := h.2.1
  have h := h.2.2
  refine x_new (ci := 5) (N := 10) (tk K_X10_init 65 rfl) (by decide) rfl cl_X10_88 in_5 ii_5 hk hn ?_
  refine WA_nm (fun M31 e_M31 => ?_)
  have h := h M31 e_M31
  have hT44 : isK M31 l0 10 18 := by rw [e_M31]; exact (isK_nw_old hT42)
  have hT45 : isK M31 (nx M30) 5 10 := by rw [e_M31]; exact isK_nw
  refine x_dup (tk K_X10_init 66 rfl) rfl ?_
  refine x_aload_n (tk K_X10_init 67 rfl) rfl rfl ?_
  refine x_getR (tk K_X10_init 68 rfl) f_X10_84 rfl hT44 ?_
  refine x_aload_n (tk K_X10_init 69 rfl) rfl rfl ?_
  refine x_getR (tk K_X10_init 70 rfl) f_X10_61 rfl hT44 ?_
  refine x_aload_n (tk K_X10_init 71 rfl) rfl rfl ?_
  refine x_getR (tk K_X10_init 72 rfl) f_X10_68 rfl hT44 ?_
  obtain ⟨kb8, nb8, hk1, hn1, h⟩ := h
  refine x_callI (As := [vR _, vR _, vR _]) (S := [vR _, vR _]) (tk K_X10_init 73 rfl) mk_X10_90 mo_X5_init hT45 rfl rfl (Nat.le_of_ble_eq_true rfl) hd hk1 hn1 h (fun r M32 hq => ?_)
  obtain ⟨rfl, h⟩ := hq
  have hO_7 := h.1
  have h := h.2
  refine x_putR (tk K_X10_init 74 rfl) f_X10_93 rfl rfl (Or.inr ⟨rfl, rfl, rfl, l_X10_93⟩) hO_7 ?_
  refine WA_nm (fun M33 e_M33 => ?_)
  have h := h M33 e_M33
  have hT46 : isK M33 l0 10 18 := by rw [e_M33]; exact hO_7
  refine x_aload_n (tk K_X10_init 75 rfl) rfl rfl ?_
  have hk := h.1
  have hn := h.2.1
  have h := h.2.2
  refine x_new (ci := 1) (N := 16) (tk K_X10_init 76 rfl) (by decide) rfl cl_X10_42 in_1 ii_1 hk hn ?_
  refine WA_nm (fun M34 e_M34 => ?_)
  have h := h M34 e_M34
  have hT48 : isK M34 l0 10 18 := by rw [e_M34]; exact (isK_nw_old hT46)
  have hT49 : isK M34 (nx M33) 1 16 := by rw [e_M34]; exact isK_nw
  refine x_dup (tk K_X10_init 77 rfl) rfl ?_
  refine x_aload_n (tk K_X10_init 78 rfl) rfl rfl ?_
  refine x_getR (tk K_X10_init 79 rfl) f_X10_75 rfl hT48 ?_
  refine x_aload_n (tk K_X10_init 80 rfl) rfl rfl ?_
  refine x_getR (tk K_X10_init 81 rfl) f_X10_84 rfl hT48 ?_
  refine x_aload_n (tk K_X10_init 82 rfl) rfl rfl ?_
  refine x_getR (tk K_X10_init 83 rfl) f_X10_61 rfl hT48 ?_
  refine x_aload_n (tk K_X10_init 84 rfl) rfl rfl ?_
  refine x_getR (tk K_X10_init 85 rfl) f_X10_68 rfl hT48 ?_
  obtain ⟨kb9, nb9, hk1, hn1, h⟩ := h
  refine x_callI (As := [vR _, vR _, vR _, vR _]) (S := [vR _, vR _]) (tk K_X10_init 86 rfl) mk_X10_97 mo_X1_init hT49 rfl rfl (Nat.le_of_ble_eq_true rfl) hd hk1 hn1 h (fun r M35 hq => ?_)
  obtain ⟨rfl, h⟩ := hq
  have hO_8 := h.1
  have h := h.2
  refine x_putR (tk K_X10_init 87 rfl) f_X10_100 rfl rfl (Or.inr ⟨rfl, rfl, rfl, l_X10_100⟩) hO_8 ?_
  refine WA_nm (fun M36 e_M36 => ?_)
  have h := h M36 e_M36
  have hT50 : isK M36 l0 10 18 := by rw [e_M36]; exact hO_8
  refine x_aload_n (tk K_X10_init 88 rfl) rfl rfl ?_
  refine x_sipush (tk K_X10_init 89 rfl) sp_240 ?_
  have hx := h.1
  have hk := h.2.1
  have hn := h.2.2.1
  have h := h.2.2.2
  refine x_newa (k := 14) (tk K_X10_init 90 rfl) rfl ac_14 hx hk hn ?_
  refine WA_nm (fun M37 e_M37 => ?_)
  have h := h M37 e_M37
  have hT52 : isK M37 (nx M36) 14 (ix (nI 240)) := by rw [e_M37]; exact isK_nw
  have hT53 : isK M37 l0 10 18 := by rw [e_M37]; exact (isK_nw_old hT50)
  refine x_putR (tk K_X10_init 91 rfl) f_X10_104 rfl rfl (Or.inr ⟨rfl, rfl, rfl, l_X10_104⟩) hT53 ?_
  refine WA_nm (fun M38 e_M38 => ?_)
  have h := h M38 e_M38
  have hT54 : isK M38 l0 10 18 := by rw [e_M38]; exact hT53
  refine x_aload_n (tk K_X10_init 92 rfl) rfl rfl ?_
  refine x_bipush (tk K_X10_init 93 rfl) bp_8 ?_
  have hx := h.1
  have hk := h.2.1
  have hn := h.2.2.1
  have h := h.2.2.2
  refine x_newa (k := 14) (tk K_X10_init 94 rfl) rfl ac_14 hx hk hn ?_
  refine WA_nm (fun M39 e_M39 => ?_)
  have h := h M39 e_M39
  have hT56 : isK M39 (nx M38) 14 (ix (nI 8)) := by rw [e_M39]; exact isK_nw
  have hT57 : isK M39 l0 10 18 := by rw [e_M39]; exact (isK_nw_old hT54)
  refine x_putR (tk K_X10_init 95 rfl) f_X10_108 rfl rfl (Or.inr ⟨rfl, rfl, rfl, l_X10_108⟩) hT57 ?_
  refine WA_nm (fun M40 e_M40 => ?_)
  have h := h M40 e_M40
  have hT58 : isK M40 l0 10 18 := by rw [e_M40]; exact hT57
  refine x_aload_n (tk K_X10_init 96 rfl) rfl rfl ?_
  refine x_bipush (tk K_X10_init 97 rfl) bp_8 ?_
  have hx := h.1
  have hk := h.2.1
  have hn := h.2.2.1
  have h := h.2.2.2
  refine x_newa (k := 14) (tk K_X10_init 98 rfl) rfl ac_14 hx hk hn ?_
  refine WA_nm (fun M41 e_M41 => ?_)
  have h := h M41 e_M41
  have hT60 : isK M41 (nx M40) 14 (ix (nI 8)) := by rw [e_M41]; exact isK_nw
  have hT61 : isK M41 l0 10 18 := by rw [e_M41]; exact (isK_nw_old hT58)
  refine x_putR (tk K_X10_init 99 rfl) f_X10_111 rfl rfl (Or.inr ⟨rfl, rfl, rfl, l_X10_111⟩) hT61 ?_
  refine WA_nm (fun M42 e_M42 => ?_)
  have h := h M42 e_M42
  have hT62 : isK M42 l0 10 18 := by rw [e_M42]; exact hT61
  refine x_aload_n (tk K_X10_init 100 rfl) rfl rfl ?_
  refine x_getR (tk K_X10_init 101 rfl) f_X10_104 rfl hT62 ?_
  refine x_sipush (tk K_X10_init 102 rfl) sp_m1000 ?_
  refine x_callS0 (As := [vR _, vI _]) (S := []) (tk K_X10_init 103 rfl) mk_X10_114 mo_J7_fill_53178 rfl rfl (Nat.le_of_ble_eq_true rfl) hd h (fun r M43 hq => ?_)
  obtain ⟨rfl, hE, h⟩ := hq
  have hT63 := hE.1 _ _ _ hT62
  exact x_return (tk K_X10_init 104 rfl) rfl h

theorem e_X10_init {X : Cx} {d kc ns : Nat} {M : Mem} {Q : Option AV → Mem → Prop} {a0 : Nat} (h : WA X d kc ns m_X10_init 0 [some (vR a0)] [] M Q) : Cl X d kc ns m_X10_init [vR a0] M Q := Cl.intro (k := 0) (by decide) rfl rfl h

-- TwoPencils.feed(IIIII)I
theorem b_X10_feed_0 {X : Cx} {d kc ns : Nat} {M : Mem} {Q : Option AV → Mem → Prop} {l1 : Int32} {l2 : Int32} {l3 : Int32} {l4 : Int32} {l5 : Int32} (hS : TpS M) (hd : 1 ≤ d)
    (h : Cl X (d - 1) 0 0 m_X9_signsIn [vI l1] M (fun r M1 => ∃ x1 : Int32, r = some (vI x1) ∧ Ext M M1 ∧ Cl X (d - 1) 0 0 m_X9_signsIn [vI l2] M1 (fun r M2 => ∃ x2 : Int32, r = some (vI x2) ∧ Ext M1 M2 ∧ Cl X (d - 1) 0 0 m_X9_signsIn [vI l3] M2 (fun r M3 => ∃ x3 : Int32, r = some (vI x3) ∧ Ext M2 M3 ∧ Cl X (d - 1) 0 0 m_X9_signsIn [vI l4] M3 (fun r M4 => ∃ x4 : Int32, r = some (vI x4) ∧ Ext M3 M4 ∧ Cl X (d - 1) 0 0 m_X9_signsIn [vI l5] M4 (fun r M5 => ∃ x5 : Int32, r = some (vI x5) ∧ Ext M4 M5 ∧ ∀ x6 : Int32, x6 = ((((x1 + x2) + x3) + x4) + x5) → ((((mI M5 2 1) + x6) ≤ (nI 300) → Cl X (d - 1) 0 0 m_X9_add [vR 2, vI l1] M5 (fun r M6 => r = none ∧ Ext M5 M6 ∧ Cl X (d - 1) 0 0 m_X9_add [vR 2, vI l2] M6 (fun r M7 => r = none ∧ Ext M6 M7 ∧ Cl X (d - 1) 0 0 m_X9_add [vR 2, vI l3] M7 (fun r M8 => r = none ∧ Ext M7 M8 ∧ Cl X (d - 1) 0 0 m_X9_add [vR 2, vI l4] M8 (fun r M9 => r = none ∧ Ext M8 M9 ∧ Cl X (d - 1) 0 0 m_X9_add [vR 2, vI l5] M9 (fun r M10 => r = none ∧ Ext M9 M10 ∧ Q (some (vI (mI M10 2 1))) M10)))))) ∧ (¬ ((mI M5 2 1) + x6) ≤ (nI 300) → Q (some (vI (-1))) M5)))))))) :
    WA X d kc ns m_X10_feed 0 [some (vR 1), some (vI l1), some (vI l2), some (vI l3), some (vI l4), some (vI l5), none] [] M Q := by
  refine x_iload_n (tk K_X10_feed 0 rfl) rfl rfl ?_
  refine x_callS0 (As := [vI _]) (S := []) (tk K_X10_feed 1 rfl) mk_X10_120 mo_X9_signsIn rfl rfl (Nat.le_of_ble_eq_true rfl) hd h (fun r M1 hq => ?_)
  obtain ⟨x1, rfl, hE, h⟩ := hq
  have hT0 := TpS.ext hS hE
  refine x_iload_n (tk K_X10_feed 2 rfl) rfl rfl ?_
  refine x_callS0 (As := [vI _]) (S := [vI _]) (tk K_X10_feed 3 rfl) mk_X10_120 mo_X9_signsIn rfl rfl (Nat.le_of_ble_eq_true rfl) hd h (fun r M2 hq => ?_)
  obtain ⟨x2, rfl, hE, h⟩ := hq
  have hT1 := TpS.ext hT0 hE
  refine x_iadd (tk K_X10_feed 4 rfl) ?_
  refine x_iload_n (tk K_X10_feed 5 rfl) rfl rfl ?_
  refine x_callS0 (As := [vI _]) (S := [vI _]) (tk K_X10_feed 6 rfl) mk_X10_120 mo_X9_signsIn rfl rfl (Nat.le_of_ble_eq_true rfl) hd h (fun r M3 hq => ?_)
  obtain ⟨x3, rfl, hE, h⟩ := hq
  have hT2 := TpS.ext hT1 hE
  refine x_iadd (tk K_X10_feed 7 rfl) ?_
  refine x_iload (tk K_X10_feed 8 rfl) rfl ?_
  refine x_callS0 (As := [vI _]) (S := [vI _]) (tk K_X10_feed 9 rfl) mk_X10_120 mo_X9_signsIn rfl rfl (Nat.le_of_ble_eq_true rfl) hd h (fun r M4 hq => ?_)
  obtain ⟨x4, rfl, hE, h⟩ := hq
  have hT3 := TpS.ext hT2 hE
  refine x_iadd (tk K_X10_feed 10 rfl) ?_
  refine x_iload (tk K_X10_feed 11 rfl) rfl ?_
  refine x_callS0 (As := [vI _]) (S := [vI _]) (tk K_X10_feed 12 rfl) mk_X10_120 mo_X9_signsIn rfl rfl (Nat.le_of_ble_eq_true rfl) hd h (fun r M5 hq => ?_)
  obtain ⟨x5, rfl, hE, h⟩ := hq
  have hT4 := TpS.ext hT3 hE
  refine x_iadd (tk K_X10_feed 13 rfl) ?_
  have h := h _ rfl
  refine x_istore (L' := [some (vR _), some (vI _), some (vI _), some (vI _), some (vI _), some (vI _), some (vI _)]) (tk K_X10_feed 14 rfl) rfl (Nat.le_of_ble_eq_true rfl) rfl ?_
  refine x_aload_n (tk K_X10_feed 15 rfl) rfl rfl ?_
  refine x_getRc (tk K_X10_feed 16 rfl) f_X10_10 rfl (TpS.o hT4) (TpS.r0 hT4) ?_
  refine x_getI (tk K_X10_feed 17 rfl) f_X10_124 rfl (TaS.o (TpS.k0 hT4)) ?_
  refine x_iload (tk K_X10_feed 18 rfl) rfl ?_
  refine x_iadd (tk K_X10_feed 19 rfl) ?_
  refine x_sipush (tk K_X10_feed 20 rfl) sp_300 ?_
  refine x_icmp_le (t := 46) (tk K_X10_feed 21 rfl) rfl (fun hc => ?_) (fun hc => ?_)
  · have h := h.1 hc
    refine x_aload_n (tk K_X10_feed 24 rfl) rfl rfl ?_
    refine x_getRc (tk K_X10_feed 25 rfl) f_X10_10 rfl (TpS.o hT4) (TpS.r0 hT4) ?_
    refine x_iload_n (tk K_X10_feed 26 rfl) rfl rfl ?_
    refine x_callV0 (As := [vI _]) (S := []) (tk K_X10_feed 27 rfl) mk_X10_127 mo_X9_add (TaS.o (TpS.k0 hT4)) rfl rfl (Nat.le_of_ble_eq_true rfl) hd h (fun r M6 hq => ?_)
    obtain ⟨rfl, hE, h⟩ := hq
    have hT5 := TpS.ext hT4 hE
    have hT6 := TaS.ext (TpS.k0 hT4) hE
    refine x_aload_n (tk K_X10_feed 28 rfl) rfl rfl ?_
    refine x_getRc (tk K_X10_feed 29 rfl) f_X10_10 rfl (TpS.o hT5) (TpS.r0 hT5) ?_
    refine x_iload_n (tk K_X10_feed 30 rfl) rfl rfl ?_
    refine x_callV0 (As := [vI _]) (S := []) (tk K_X10_feed 31 rfl) mk_X10_127 mo_X9_add (TaS.o (TpS.k0 hT5)) rfl rfl (Nat.le_of_ble_eq_true rfl) hd h (fun r M7 hq => ?_)
    obtain ⟨rfl, hE, h⟩ := hq
    have hT7 := TpS.ext hT5 hE
    have hT8 := TaS.ext (TpS.k0 hT5) hE
    refine x_aload_n (tk K_X10_feed 32 rfl) rfl rfl ?_
    refine x_getRc (tk K_X10_feed 33 rfl) f_X10_10 rfl (TpS.o hT7) (TpS.r0 hT7) ?_
    refine x_iload_n (tk K_X10_feed 34 rfl) rfl rfl ?_
    refine x_callV0 (As := [vI _]) (S := []) (tk K_X10_feed 35 rfl) mk_X10_127 mo_X9_add (TaS.o (TpS.k0 hT7)) rfl rfl (Nat.le_of_ble_eq_true rfl) hd h (fun r M8 hq => ?_)
    obtain ⟨rfl, hE, h⟩ := hq
    have hT9 := TpS.ext hT7 hE
    have hT10 := TaS.ext (TpS.k0 hT7) hE
    refine x_aload_n (tk K_X10_feed 36 rfl) rfl rfl ?_
    refine x_getRc (tk K_X10_feed 37 rfl) f_X10_10 rfl (TpS.o hT9) (TpS.r0 hT9) ?_
    refine x_iload (tk K_X10_feed 38 rfl) rfl ?_
    refine x_callV0 (As := [vI _]) (S := []) (tk K_X10_feed 39 rfl) mk_X10_127 mo_X9_add (TaS.o (TpS.k0 hT9)) rfl rfl (Nat.le_of_ble_eq_true rfl) hd h (fun r M9 hq => ?_)
    obtain ⟨rfl, hE, h⟩ := hq
    have hT11 := TpS.ext hT9 hE
    have hT12 := TaS.ext (TpS.k0 hT9) hE
    refine x_aload_n (tk K_X10_feed 40 rfl) rfl rfl ?_
    refine x_getRc (tk K_X10_feed 41 rfl) f_X10_10 rfl (TpS.o hT11) (TpS.r0 hT11) ?_
    refine x_iload (tk K_X10_feed 42 rfl) rfl ?_
    refine x_callV0 (As := [vI _]) (S := []) (tk K_X10_feed 43 rfl) mk_X10_127 mo_X9_add (TaS.o (TpS.k0 hT11)) rfl rfl (Nat.le_of_ble_eq_true rfl) hd h (fun r M10 hq => ?_)
    obtain ⟨rfl, hE, h⟩ := hq
    have hT13 := TpS.ext hT11 hE
    have hT14 := TaS.ext (TpS.k0 hT11) hE
    refine x_aload_n (tk K_X10_feed 44 rfl) rfl rfl ?_
    refine x_getRc (tk K_X10_feed 45 rfl) f_X10_10 rfl (TpS.o hT13) (TpS.r0 hT13) ?_
    refine x_getI (tk K_X10_feed 46 rfl) f_X10_124 rfl (TaS.o (TpS.k0 hT13)) ?_
    exact x_ireturn (tk K_X10_feed 47 rfl) rfl rfl h
  · have h := h.2 hc
    refine x_iconst (tk K_X10_feed 22 rfl) ic_m1 ?_
    exact x_ireturn (tk K_X10_feed 23 rfl) rfl rfl h

theorem e_X10_feed {X : Cx} {d kc ns : Nat} {M : Mem} {Q : Option AV → Mem → Prop} {a1 : Int32} {a2 : Int32} {a3 : Int32} {a4 : Int32} {a5 : Int32} (h : WA X d kc ns m_X10_feed 0 [some (vR 1), some (vI a1), some (vI a2), some (vI a3), some (vI a4), some (vI a5), none] [] M Q) : Cl X d kc ns m_X10_feed [vR 1, vI a1, vI a2, vI a3, vI a4, vI a5] M Q := Cl.intro (k := 1) (by decide) rfl rfl h

-- TwoPencils.end(I)Z
theorem b_X10_end_0 {X : Cx} {d kc ns : Nat} {M : Mem} {Q : Option AV → Mem → Prop} {l1 : Int32} (hS : TpS M)
    (h : ((l1 < nI 0 → Q (some (vI (nI 0))) M) ∧ (¬ l1 < nI 0 → ((l1 ≤ (mI M 2 1) → ∀ M1 : Mem, M1 = sI M 2 1 l1 → Q (some (vI (nI 1))) M1) ∧ (¬ l1 ≤ (mI M 2 1) → Q (some (vI (nI 0))) M))))) :
    WA X d kc ns m_X10_end 0 [some (vR 1), some (vI l1)] [] M Q := by
  refine x_iload_n (tk K_X10_end 0 rfl) rfl rfl ?_
  refine x_if_lt (t := 15) (tk K_X10_end 1 rfl) rfl (fun hc => ?_) (fun hc => ?_)
  · have h := h.1 hc
    refine x_iconst (tk K_X10_end 7 rfl) ic_0 ?_
    exact x_ireturn (tk K_X10_end 8 rfl) rfl (fitZ (Or.inl rfl)).1 h
  · have h := h.2 hc
    refine x_iload_n (tk K_X10_end 2 rfl) rfl rfl ?_
    refine x_aload_n (tk K_X10_end 3 rfl) rfl rfl ?_
    refine x_getRc (tk K_X10_end 4 rfl) f_X10_10 rfl (TpS.o hS) (TpS.r0 hS) ?_
    refine x_getI (tk K_X10_end 5 rfl) f_X10_124 rfl (TaS.o (TpS.k0 hS)) ?_
    refine x_icmp_le (t := 17) (tk K_X10_end 6 rfl) rfl (fun hc => ?_) (fun hc => ?_)
    · have h := h.1 hc
      refine x_aload_n (tk K_X10_end 9 rfl) rfl rfl ?_
      refine x_getRc (tk K_X10_end 10 rfl) f_X10_10 rfl (TpS.o hS) (TpS.r0 hS) ?_
      refine x_iload_n (tk K_X10_end 11 rfl) rfl rfl ?_
      have h := h _ rfl
      refine x_putI (tk K_X10_end 12 rfl) f_X10_124 rfl (Or.inl rfl) (TaS.o (TpS.k0 hS)) ?_
      refine x_iconst (tk K_X10_end 13 rfl) ic_1 ?_
      exact x_ireturn (tk K_X10_end 14 rfl) rfl (fitZ (Or.inr rfl)).1 h
    · have h := h.2 hc
      refine x_iconst (tk K_X10_end 7 rfl) ic_0 ?_
      exact x_ireturn (tk K_X10_end 8 rfl) rfl (fitZ (Or.inl rfl)).1 h

theorem e_X10_end {X : Cx} {d kc ns : Nat} {M : Mem} {Q : Option AV → Mem → Prop} {a1 : Int32} (h : WA X d kc ns m_X10_end 0 [some (vR 1), some (vI a1)] [] M Q) : Cl X d kc ns m_X10_end [vR 1, vI a1] M Q := Cl.intro (k := 0) (by decide) rfl rfl h

-- TwoPencils.fault(I)I
theorem b_X10_fault_0 {X : Cx} {d kc ns : Nat} {M : Mem} {Q : Option AV → Mem → Prop} {l1 : Int32} (hS : TpS M) (hd : 1 ≤ d)
    (h : ((¬ l1 = nI 0 → ((¬ l1 = (nI 1) → Q (some (vI (-2))) M) ∧ (l1 = (nI 1) → Cl X (d - 1) 0 0 m_X7_read [vR 8, vR 2] M (fun r M1 => ∃ x1 : Int32, r = some (vI x1) ∧ Ext M M1 ∧ Q (some (vI x1)) M1)))) ∧ (l1 = nI 0 → Cl X (d - 1) 0 0 m_X4_read [vR 4, vR 2] M (fun r M2 => ∃ x2 : Int32, r = some (vI x2) ∧ Ext M M2 ∧ Q (some (vI x2)) M2)))) :
    WA X d kc ns m_X10_fault 0 [some (vR 1), some (vI l1)] [] M Q := by
  refine x_iload_n (tk K_X10_fault 0 rfl) rfl rfl ?_
  refine x_if_ne (t := 16) (tk K_X10_fault 1 rfl) rfl (fun hc => ?_) (fun hc => ?_)
  · have h := h.1 hc
    refine x_iload_n (tk K_X10_fault 8 rfl) rfl rfl ?_
    refine x_iconst (tk K_X10_fault 9 rfl) ic_1 ?_
    refine x_icmp_ne (t := 35) (tk K_X10_fault 10 rfl) rfl (fun hc => ?_) (fun hc => ?_)
    · have h := h.1 hc
      refine x_bipush (tk K_X10_fault 17 rfl) bp_m2 ?_
      exact x_ireturn (tk K_X10_fault 18 rfl) rfl rfl h
    · have h := h.2 hc
      refine x_aload_n (tk K_X10_fault 11 rfl) rfl rfl ?_
      refine x_getRc (tk K_X10_fault 12 rfl) f_X10_26 rfl (TpS.o hS) (TpS.r2 hS) ?_
      refine x_aload_n (tk K_X10_fault 13 rfl) rfl rfl ?_
      refine x_getRc (tk K_X10_fault 14 rfl) f_X10_10 rfl (TpS.o hS) (TpS.r0 hS) ?_
      refine x_callV0 (As := [vR _]) (S := []) (tk K_X10_fault 15 rfl) mk_X10_135 mo_X7_read (PtS.o (TpS.k2 hS)) rfl rfl (Nat.le_of_ble_eq_true rfl) hd h (fun r M1 hq => ?_)
      obtain ⟨x1, rfl, hE, h⟩ := hq
      have hT0 := TpS.ext hS hE
      have hT1 := PtS.ext (TpS.k2 hS) hE
      have hT2 := TaS.ext (TpS.k0 hS) hE
      refine x_goto (t := 37) (tk K_X10_fault 16 rfl) rfl ?_
      exact x_ireturn (tk K_X10_fault 18 rfl) rfl rfl h
  · have h := h.2 hc
    refine x_aload_n (tk K_X10_fault 2 rfl) rfl rfl ?_
    refine x_getRc (tk K_X10_fault 3 rfl) f_X10_19 rfl (TpS.o hS) (TpS.r1 hS) ?_
    refine x_aload_n (tk K_X10_fault 4 rfl) rfl rfl ?_
    refine x_getRc (tk K_X10_fault 5 rfl) f_X10_10 rfl (TpS.o hS) (TpS.r0 hS) ?_
    refine x_callV0 (As := [vR _]) (S := []) (tk K_X10_fault 6 rfl) mk_X10_131 mo_X4_read (LtS.o (TpS.k1 hS)) rfl rfl (Nat.le_of_ble_eq_true rfl) hd h (fun r M2 hq => ?_)
    obtain ⟨x2, rfl, hE, h⟩ := hq
    have hT3 := TpS.ext hS hE
    have hT4 := LtS.ext (TpS.k1 hS) hE
    have hT5 := TaS.ext (TpS.k0 hS) hE
    exact x_ireturn (tk K_X10_fault 7 rfl) rfl rfl h

theorem e_X10_fault {X : Cx} {d kc ns : Nat} {M : Mem} {Q : Option AV → Mem → Prop} {a1 : Int32} (h : WA X d kc ns m_X10_fault 0 [some (vR 1), some (vI a1)] [] M Q) : Cl X d kc ns m_X10_fault [vR 1, vI a1] M Q := Cl.intro (k := 0) (by decide) rfl rfl h

-- TwoPencils.land()I
theorem b_X10_land_0 {X : Cx} {d kc ns : Nat} {M : Mem} {Q : Option AV → Mem → Prop} (hS : TpS M) (hd : 1 ≤ d)
    (h : (((nI 6) ≤ (mI M 1 6) → Q (some (vI (-1))) M) ∧ (¬ (nI 6) ≤ (mI M 1 6) → Cl X (d - 1) 0 0 m_X4_read [vR 4, vR 2] M (fun r M1 => ∃ x1 : Int32, r = some (vI x1) ∧ Ext M M1 ∧ ((x1 = (-1) → 1 ≤ kc ∧ 16 ≤ ns ∧ ∀ M2 : Mem, M2 = nw M1 3 16 → ∃ kb1 nb1 : Nat, kb1 ≤ (kc - 1) ∧ nb1 ≤ (ns - 16) ∧ Cl X (d - 1) kb1 nb1 m_X3_init [vR (nx M1), vR 4] M2 (fun r M3 => r = none ∧ ∃ n1 : Nat, isK M3 11 18 n1 ∧ LaS M3 (nx M1) ∧ vp_in (mI M1 1 6) n1 ∧ ∀ M4 : Mem, M4 = sR M3 11 (ix (mI M1 1 6)) (nx M1) → TpS M4 ∧ ∀ M5 : Mem, M5 = sI M4 2 1 (nI 0) → ∀ M6 : Mem, M6 = sI M5 1 6 ((mI M5 1 6) + (nI 1)) → Q (some (vI ((mI M6 1 6) - (nI 1)))) M6)) ∧ (¬ x1 = (-1) → Q (some (vI (-1))) M1)))))) :
    WA X d kc ns m_X10_land 0 [some (vR 1)] [] M Q := by
  refine x_aload_n (tk K_X10_land 0 rfl) rfl rfl ?_
  refine x_getI (tk K_X10_land 1 rfl) f_X10_48 rfl (TpS.o hS) ?_
  refine x_bipush (tk K_X10_land 2 rfl) bp_6 ?_
  refine x_icmp_ge (t := 24) (tk K_X10_land 3 rfl) rfl (fun hc => ?_) (fun hc => ?_)
  · have h := h.1 hc
    refine x_iconst (tk K_X10_land 11 rfl) ic_m1 ?_
    exact x_ireturn (tk K_X10_land 12 rfl) rfl rfl h
  · have h := h.2 hc
    refine x_aload_n (tk K_X10_land 4 rfl) rfl rfl ?_
    refine x_getRc (tk K_X10_land 5 rfl) f_X10_19 rfl (TpS.o hS) (TpS.r1 hS) ?_
    refine x_aload_n (tk K_X10_land 6 rfl) rfl rfl ?_
    refine x_getRc (tk K_X10_land 7 rfl) f_X10_10 rfl (TpS.o hS) (TpS.r0 hS) ?_
    refine x_callV0 (As := [vR _]) (S := []) (tk K_X10_land 8 rfl) mk_X10_131 mo_X4_read (LtS.o (TpS.k1 hS)) rfl rfl (Nat.le_of_ble_eq_true rfl) hd h (fun r M1 hq => ?_)
    obtain ⟨x1, rfl, hE, h⟩ := hq
    have hT0 := TpS.ext hS hE
    have hT1 := LtS.ext (TpS.k1 hS) hE
    have hT2 := TaS.ext (TpS.k0 hS) hE
    refine x_iconst (tk K_X10_land 9 rfl) ic_m1 ?_
    refine x_icmp_eq (t := 26) (tk K_X10_land 10 rfl) rfl (fun hc => ?_) (fun hc => ?_)
    · have h := h.1 hc
      refine x_aload_n (tk K_X10_land 13 rfl) rfl rfl ?_
      refine x_getRc (tk K_X10_land 14 rfl) f_X10_32 rfl (TpS.o hT0) (TpS.r3 hT0) ?_
      refine x_aload_n (tk K_X10_land 15 rfl) rfl rfl ?_
      refine x_getI (tk K_X10_land 16 rfl) f_X10_48 rfl (TpS.o hT0) ?_
      have hk := h.1
      have hn := h.2.1
      have h := h.2.2
      have h := h _ rfl
      refine x_new (ci := 3) (N := 16) (tk K_X10_land 17 rfl) (by decide) rfl cl_X10_30 in_3 ii_3 hk hn ?_
      refine x_dup (tk K_X10_land 18 rfl) rfl ?_
      refine x_aload_n (tk K_X10_land 19 rfl) rfl rfl ?_
      refine x_getRc (tk K_X10_land 20 rfl) f_X10_19 rfl (TpS.o (TpS.ext hT0 ExtN)) (TpS.r1 (TpS.ext hT0 ExtN)) ?_
      obtain ⟨kb1, nb1, hk1, hn1, h⟩ := h
      refine x_callI (As := [vR _]) (S := [vR _, vI _, vR _]) (tk K_X10_land 21 rfl) mk_X10_58 mo_X3_init isK_nw rfl rfl (Nat.le_of_ble_eq_true rfl) hd hk1 hn1 h (fun r M3 hq => ?_)
      obtain ⟨rfl, h⟩ := hq
      obtain ⟨n1, hA_n1, h⟩ := h
      have hS_21 := h.1
      have h := h.2
      have hi := h.1
      have h := h.2
      have h := h _ rfl
      refine x_aast18 (tk K_X10_land 22 rfl) hA_n1 (LaS.o hS_21) hi ?_
      refine x_aload_n (tk K_X10_land 23 rfl) rfl rfl ?_
      have hS_42 := h.1
      have h := h.2
      refine x_getRc (tk K_X10_land 24 rfl) f_X10_10 rfl (TpS.o hS_42) (TpS.r0 hS_42) ?_
      refine x_iconst (tk K_X10_land 25 rfl) ic_0 ?_
      have h := h _ rfl
      refine x_putI (tk K_X10_land 26 rfl) f_X10_124 rfl (Or.inl rfl) (TaS.o (TpS.k0 hS_42)) ?_
      refine x_aload_n (tk K_X10_land 27 rfl) rfl rfl ?_
      refine x_dup (tk K_X10_land 28 rfl) rfl ?_
      refine x_getI (tk K_X10_land 29 rfl) f_X10_48 rfl (TpS.o hS_42) ?_
      refine x_iconst (tk K_X10_land 30 rfl) ic_1 ?_
      refine x_iadd (tk K_X10_land 31 rfl) ?_
      have h := h _ rfl
      refine x_putI (tk K_X10_land 32 rfl) f_X10_48 rfl (Or.inl rfl) (TpS.o hS_42) ?_
      refine x_aload_n (tk K_X10_land 33 rfl) rfl rfl ?_
      refine x_getI (tk K_X10_land 34 rfl) f_X10_48 rfl (TpS.o hS_42) ?_
      refine x_iconst (tk K_X10_land 35 rfl) ic_1 ?_
      refine x_isub (tk K_X10_land 36 rfl) ?_
      exact x_ireturn (tk K_X10_land 37 rfl) rfl rfl h
    · have h := h.2 hc
      refine x_iconst (tk K_X10_land 11 rfl) ic_m1 ?_
      exact x_ireturn (tk K_X10_land 12 rfl) rfl rfl h

theorem e_X10_land {X : Cx} {d kc ns : Nat} {M : Mem} {Q : Option AV → Mem → Prop} (h : WA X d kc ns m_X10_land 0 [some (vR 1)] [] M Q) : Cl X d kc ns m_X10_land [vR 1] M Q := Cl.intro (k := 0) (by decide) rfl rfl h

-- TwoPencils.protocol()I
theorem b_X10_protocol_0 {X : Cx} {d kc ns : Nat} {M : Mem} {Q : Option AV → Mem → Prop} (hS : TpS M) (hd : 1 ≤ d)
    (h : (((nI 8) ≤ (mI M 1 7) → Q (some (vI (-1))) M) ∧ (¬ (nI 8) ≤ (mI M 1 7) → Cl X (d - 1) 0 0 m_X7_read [vR 8, vR 2] M (fun r M1 => ∃ x1 : Int32, r = some (vI x1) ∧ Ext M M1 ∧ ((x1 = (-1) → 1 ≤ kc ∧ 2 ≤ ns ∧ ∀ M2 : Mem, M2 = nw M1 6 2 → ∃ kb1 nb1 : Nat, kb1 ≤ (kc - 1) ∧ nb1 ≤ (ns - 2) ∧ Cl X (d - 1) kb1 nb1 m_X6_init [vR (nx M1), vR 8] M2 (fun r M3 => r = none ∧ ∃ n1 : Nat, isK M3 12 19 n1 ∧ PrS M3 (nx M1) ∧ vp_in (mI M1 1 7) n1 ∧ ∀ M4 : Mem, M4 = sR M3 12 (ix (mI M1 1 7)) (nx M1) → TpS M4 ∧ ∀ M5 : Mem, M5 = sI M4 2 1 (nI 0) → ∀ M6 : Mem, M6 = sI M5 1 7 ((mI M5 1 7) + (nI 1)) → Q (some (vI ((mI M6 1 7) - (nI 1)))) M6)) ∧ (¬ x1 = (-1) → Q (some (vI (-1))) M1)))))) :
    WA X d kc ns m_X10_protocol 0 [some (vR 1)] [] M Q := by
  refine x_aload_n (tk K_X10_protocol 0 rfl) rfl rfl ?_
  refine x_getI (tk K_X10_protocol 1 rfl) f_X10_52 rfl (TpS.o hS) ?_
  refine x_bipush (tk K_X10_protocol 2 rfl) bp_8 ?_
  refine x_icmp_ge (t := 24) (tk K_X10_protocol 3 rfl) rfl (fun hc => ?_) (fun hc => ?_)
  · have h := h.1 hc
    refine x_iconst (tk K_X10_protocol 11 rfl) ic_m1 ?_
    exact x_ireturn (tk K_X10_protocol 12 rfl) rfl rfl h
  · have h := h.2 hc
    refine x_aload_n (tk K_X10_protocol 4 rfl) rfl rfl ?_
    refine x_getRc (tk K_X10_protocol 5 rfl) f_X10_26 rfl (TpS.o hS) (TpS.r2 hS) ?_
    refine x_aload_n (tk K_X10_protocol 6 rfl) rfl rfl ?_
    refine x_getRc (tk K_X10_protocol 7 rfl) f_X10_10 rfl (TpS.o hS) (TpS.r0 hS) ?_
    refine x_callV0 (As := [vR _]) (S := []) (tk K_X10_protocol 8 rfl) mk_X10_135 mo_X7_read (PtS.o (TpS.k2 hS)) rfl rfl (Nat.le_of_ble_eq_true rfl) hd h (fun r M1 hq => ?_)
    obtain ⟨x1, rfl, hE, h⟩ := hq
    have hT0 := TpS.ext hS hE
    have hT1 := PtS.ext (TpS.k2 hS) hE
    have hT2 := TaS.ext (TpS.k0 hS) hE
    refine x_iconst (tk K_X10_protocol 9 rfl) ic_m1 ?_
    refine x_icmp_eq (t := 26) (tk K_X10_protocol 10 rfl) rfl (fun hc => ?_) (fun hc => ?_)
    · have h := h.1 hc
      refine x_aload_n (tk K_X10_protocol 13 rfl) rfl rfl ?_
      refine x_getRc (tk K_X10_protocol 14 rfl) f_X10_38 rfl (TpS.o hT0) (TpS.r4 hT0) ?_
      refine x_aload_n (tk K_X10_protocol 15 rfl) rfl rfl ?_
      refine x_getI (tk K_X10_protocol 16 rfl) f_X10_52 rfl (TpS.o hT0) ?_
      have hk := h.1
      have hn := h.2.1
      have h := h.2.2
      have h := h _ rfl
      refine x_new (ci := 6) (N := 2) (tk K_X10_protocol 17 rfl) (by decide) rfl cl_X10_36 in_6 ii_6 hk hn ?_
      refine x_dup (tk K_X10_protocol 18 rfl) rfl ?_
      refine x_aload_n (tk K_X10_protocol 19 rfl) rfl rfl ?_
      refine x_getRc (tk K_X10_protocol 20 rfl) f_X10_26 rfl (TpS.o (TpS.ext hT0 ExtN)) (TpS.r2 (TpS.ext hT0 ExtN)) ?_
      obtain ⟨kb1, nb1, hk1, hn1, h⟩ := h
      refine x_callI (As := [vR _]) (S := [vR _, vI _, vR _]) (tk K_X10_protocol 21 rfl) mk_X10_65 mo_X6_init isK_nw rfl rfl (Nat.le_of_ble_eq_true rfl) hd hk1 hn1 h (fun r M3 hq => ?_)
      obtain ⟨rfl, h⟩ := hq
      obtain ⟨n1, hA_n1, h⟩ := h
      have hS_21 := h.1
      have h := h.2
      have hi := h.1
      have h := h.2
      have h := h _ rfl
      refine x_aast19 (tk K_X10_protocol 22 rfl) hA_n1 (PrS.o hS_21) hi ?_
      refine x_aload_n (tk K_X10_protocol 23 rfl) rfl rfl ?_
      have hS_42 := h.1
      have h := h.2
      refine x_getRc (tk K_X10_protocol 24 rfl) f_X10_10 rfl (TpS.o hS_42) (TpS.r0 hS_42) ?_
      refine x_iconst (tk K_X10_protocol 25 rfl) ic_0 ?_
      have h := h _ rfl
      refine x_putI (tk K_X10_protocol 26 rfl) f_X10_124 rfl (Or.inl rfl) (TaS.o (TpS.k0 hS_42)) ?_
      refine x_aload_n (tk K_X10_protocol 27 rfl) rfl rfl ?_
      refine x_dup (tk K_X10_protocol 28 rfl) rfl ?_
      refine x_getI (tk K_X10_protocol 29 rfl) f_X10_52 rfl (TpS.o hS_42) ?_
      refine x_iconst (tk K_X10_protocol 30 rfl) ic_1 ?_
      refine x_iadd (tk K_X10_protocol 31 rfl) ?_
      have h := h _ rfl
      refine x_putI (tk K_X10_protocol 32 rfl) f_X10_52 rfl (Or.inl rfl) (TpS.o hS_42) ?_
      refine x_aload_n (tk K_X10_protocol 33 rfl) rfl rfl ?_
      refine x_getI (tk K_X10_protocol 34 rfl) f_X10_52 rfl (TpS.o hS_42) ?_
      refine x_iconst (tk K_X10_protocol 35 rfl) ic_1 ?_
      refine x_isub (tk K_X10_protocol 36 rfl) ?_
      exact x_ireturn (tk K_X10_protocol 37 rfl) rfl rfl h
    · have h := h.2 hc
      refine x_iconst (tk K_X10_protocol 11 rfl) ic_m1 ?_
      exact x_ireturn (tk K_X10_protocol 12 rfl) rfl rfl h

theorem e_X10_protocol {X : Cx} {d kc ns : Nat} {M : Mem} {Q : Option AV → Mem → Prop} (h : WA X d kc ns m_X10_protocol 0 [some (vR 1)] [] M Q) : Cl X d kc ns m_X10_protocol [vR 1] M Q := Cl.intro (k := 0) (by decide) rfl rfl h

-- TwoPencils.told(II)I
theorem b_X10_told_0 {X : Cx} {d kc ns : Nat} {M : Mem} {Q : Option AV → Mem → Prop} {l1 : Int32} {l2 : Int32} (hS : TpS M) (hd : 1 ≤ d)
    (h : Cl X (d - 1) 0 0 m_X10_landAt [vR 1, vI l1] M (fun r M1 => ∃ x1 : Nat, r = some (vR x1) ∧ Ext M M1 ∧ ((¬ x1 = 0 → (((l2.toInt < 0 ∨ 6 < l2.toInt) → Q (some (vI (-1))) M1) ∧ (l2.toInt = 0 → LaS M1 x1 ∧ Q (some (vI (mI M1 x1 0))) M1) ∧ (l2.toInt = 1 → LaS M1 x1 ∧ Q (some (vI (mI M1 x1 1))) M1) ∧ (l2.toInt = 2 → LaS M1 x1 ∧ Q (some (vI (mI M1 x1 2))) M1) ∧ (l2.toInt = 3 → LaS M1 x1 ∧ Q (some (vI (mI M1 x1 3))) M1) ∧ (l2.toInt = 4 → WA X d kc ns m_X10_told 76 [some (vR 1), none, some (vI l2), some (vR x1)] [] M1 Q) ∧ (l2.toInt = 5 → WA X d kc ns m_X10_told 76 [some (vR 1), none, some (vI l2), some (vR x1)] [] M1 Q) ∧ (l2.toInt = 6 → WA X d kc ns m_X10_told 76 [some (vR 1), none, some (vI l2), some (vR x1)] [] M1 Q))) ∧ (x1 = 0 → Q (some (vI (-1))) M1)))) :
    WA X d kc ns m_X10_told 0 [some (vR 1), some (vI l1), some (vI l2), none] [] M Q := by
  refine x_aload_n (tk K_X10_told 0 rfl) rfl rfl ?_
  refine x_iload_n (tk K_X10_told 1 rfl) rfl rfl ?_
  refine x_callV0 (As := [vI _]) (S := []) (tk K_X10_told 2 rfl) mk_X10_136 mo_X10_landAt (TpS.o hS) rfl rfl (Nat.le_of_ble_eq_true rfl) hd h (fun r M1 hq => ?_)
  obtain ⟨x1, rfl, hE, h⟩ := hq
  have hT0 := TpS.ext hS hE
  refine x_astore_n (L' := [some (vR _), some (vI _), some (vI _), some (vR _)]) (tk K_X10_told 3 rfl) rfl rfl (Nat.le_of_ble_eq_true rfl) rfl ?_
  refine x_aload_n (tk K_X10_told 4 rfl) rfl rfl ?_
  refine x_ifnonnull (t := 12) (tk K_X10_told 5 rfl) rfl (fun hc => ?_) (fun hc => ?_)
  · have h := h.1 hc
    refine x_iload_n (tk K_X10_told 8 rfl) rfl rfl ?_
    refine x_table (td := 84) (tk K_X10_told 9 rfl) rfl (fun hc => ?_) (fun k hk hk2 => ?_)
    · have h := h.1 hc
      refine x_iconst (tk K_X10_told 28 rfl) ic_m1 ?_
      exact x_ireturn (tk K_X10_told 29 rfl) rfl rfl h
    · rcases (show k = 0 ∨ k = 1 ∨ k = 2 ∨ k = 3 ∨ k = 4 ∨ k = 5 ∨ k = 6 by omega) with rfl | rfl | rfl | rfl | rfl | rfl | rfl
      · refine ⟨43, 56, rfl, rfl, ?_⟩
        have h := h.2.1 (by omega)
        refine x_aload_n (tk K_X10_told 10 rfl) rfl rfl ?_
        have hS_2 := h.1
        have h := h.2
        refine x_getI (tk K_X10_told 11 rfl) f_X10_140 rfl (LaS.o hS_2) ?_
        exact x_ireturn (tk K_X10_told 12 rfl) rfl rfl h
      · refine ⟨48, 61, rfl, rfl, ?_⟩
        have h := h.2.2.1 (by omega)
        refine x_aload_n (tk K_X10_told 13 rfl) rfl rfl ?_
        have hS_22 := h.1
        have h := h.2
        refine x_getI (tk K_X10_told 14 rfl) f_X10_143 rfl (LaS.o hS_22) ?_
        exact x_ireturn (tk K_X10_told 15 rfl) rfl rfl h
      · refine ⟨53, 66, rfl, rfl, ?_⟩
        have h := h.2.2.2.1 (by omega)
        refine x_aload_n (tk K_X10_told 16 rfl) rfl rfl ?_
        have hS_42 := h.1
        have h := h.2
        refine x_getI (tk K_X10_told 17 rfl) f_X10_146 rfl (LaS.o hS_42) ?_
        exact x_ireturn (tk K_X10_told 18 rfl) rfl rfl h
      · refine ⟨58, 71, rfl, rfl, ?_⟩
        have h := h.2.2.2.2.1 (by omega)
        refine x_aload_n (tk K_X10_told 19 rfl) rfl rfl ?_
        have hS_62 := h.1
        have h := h.2
        refine x_getI (tk K_X10_told 20 rfl) f_X10_149 rfl (LaS.o hS_62) ?_
        exact x_ireturn (tk K_X10_told 21 rfl) rfl rfl h
      · refine ⟨63, 76, rfl, rfl, ?_⟩
        have h := h.2.2.2.2.2.1 (by omega)
        refine x_msk [true, false, true, true] ?_
        exact h
      · refine ⟨63, 76, rfl, rfl, ?_⟩
        have h := h.2.2.2.2.2.2.1 (by omega)
        refine x_msk [true, false, true, true] ?_
        exact h
      · refine ⟨63, 76, rfl, rfl, ?_⟩
        have h := h.2.2.2.2.2.2.2 (by omega)
        refine x_msk [true, false, true, true] ?_
        exact h
  · have h := h.2 hc
    refine x_iconst (tk K_X10_told 6 rfl) ic_m1 ?_
    exact x_ireturn (tk K_X10_told 7 rfl) rfl rfl h

theorem b_X10_told_76 {X : Cx} {d kc ns : Nat} {M : Mem} {Q : Option AV → Mem → Prop} {l2 : Int32} {l3 : Nat} (hS : TpS M) (hd : 1 ≤ d)
    (h : LaS M l3 ∧ Cl X (d - 1) 0 0 m_X3_votesInAll [vR l3, vI (l2 - (nI 4))] M (fun r M1 => ∃ x1 : Int32, r = some (vI x1) ∧ Ext M M1 ∧ Q (some (vI x1)) M1)) :
    WA X d kc ns m_X10_told 76 [some (vR 1), none, some (vI l2), some (vR l3)] [] M Q := by
  refine x_aload_n (tk K_X10_told 22 rfl) rfl rfl ?_
  refine x_iload_n (tk K_X10_told 23 rfl) rfl rfl ?_
  refine x_iconst (tk K_X10_told 24 rfl) ic_4 ?_
  refine x_isub (tk K_X10_told 25 rfl) ?_
  have hS_2 := h.1
  have h := h.2
  refine x_callV0 (As := [vI _]) (S := []) (tk K_X10_told 26 rfl) mk_X10_152 mo_X3_votesInAll (LaS.o hS_2) rfl rfl (Nat.le_of_ble_eq_true rfl) hd h (fun r M1 hq => ?_)
  obtain ⟨x1, rfl, hE, h⟩ := hq
  have hT0 := TpS.ext hS hE
  have hT1 := LaS.ext hS_2 hE
  exact x_ireturn (tk K_X10_told 27 rfl) rfl rfl h

theorem e_X10_told {X : Cx} {d kc ns : Nat} {M : Mem} {Q : Option AV → Mem → Prop} {a1 : Int32} {a2 : Int32} (h : WA X d kc ns m_X10_told 0 [some (vR 1), some (vI a1), some (vI a2), none] [] M Q) : Cl X d kc ns m_X10_told [vR 1, vI a1, vI a2] M Q := Cl.intro (k := 1) (by decide) rfl rfl h

-- TwoPencils.vote(IIII)Z
theorem b_X10_vote_0 {X : Cx} {d kc ns : Nat} {M : Mem} {Q : Option AV → Mem → Prop} {l1 : Int32} {l2 : Int32} {l3 : Int32} {l4 : Int32} (hS : TpS M) (hd : 1 ≤ d)
    (h : Cl X (d - 1) 0 0 m_X10_landAt [vR 1, vI l1] M (fun r M1 => ∃ x1 : Nat, r = some (vR x1) ∧ Ext M M1 ∧ ((x1 = 0 → Q (some (vI (nI 0))) M1) ∧ (¬ x1 = 0 → LaS M1 x1 ∧ ((¬ (mI M1 x1 15) = nI 0 → Q (some (vI (nI 0))) M1) ∧ ((mI M1 x1 15) = nI 0 → ((l2 < nI 0 → Q (some (vI (nI 0))) M1) ∧ (¬ l2 < nI 0 → ((l2 < (mI M1 x1 0) → Cl X (d - 1) 0 0 m_X10_isParty [vI l3] M1 (fun r M2 => ∃ x2 : Int32, r = some (vI x2) ∧ Ext M1 M2 ∧ ((x2 = nI 0 → Q (some (vI (nI 0))) M2) ∧ (¬ x2 = nI 0 → ((l4 < nI 0 → Q (some (vI (nI 0))) M2) ∧ (¬ l4 < nI 0 → ((l4 ≤ (nI 99) → vp_in ((l2 * (nI 3)) + l3) 27 ∧ ∀ M3 : Mem, M3 = sI M2 (x1 + 2) (ix ((l2 * (nI 3)) + l3)) l4 → ∀ M4 : Mem, M4 = sI M3 x1 14 (nI 1) → Cl X (d - 1) 0 0 m_X5_forget [vR 38] M4 (fun r M5 => r = none ∧ Ext M4 M5 ∧ ∀ x3 : Int32, x3 = ((l1 * (nI 8)) * (nI 5)) → Cl X (d - 1) 0 0 m_J7_fill_fda19 [vR 72, vI x3, vI (x3 + (nI 40)), vI (-1000)] M5 (fun r M6 => r = none ∧ Ext M5 M6 ∧ Q (some (vI (nI 1))) M6))) ∧ (¬ l4 ≤ (nI 99) → Q (some (vI (nI 0))) M2)))))))) ∧ (¬ l2 < (mI M1 x1 0) → Q (some (vI (nI 0))) M1)))))))))) :
    WA X d kc ns m_X10_vote 0 [some (vR 1), some (vI l1), some (vI l2), some (vI l3), some (vI l4), none, none] [] M Q := by
  refine x_aload_n (tk K_X10_vote 0 rfl) rfl rfl ?_
  refine x_iload_n (tk K_X10_vote 1 rfl) rfl rfl ?_
  refine x_callV0 (As := [vI _]) (S := []) (tk K_X10_vote 2 rfl) mk_X10_136 mo_X10_landAt (TpS.o hS) rfl rfl (Nat.le_of_ble_eq_true rfl) hd h (fun r M1 hq => ?_)
  obtain ⟨x1, rfl, hE, h⟩ := hq
  have hT0 := TpS.ext hS hE
  refine x_astore (L' := [some (vR _), some (vI _), some (vI _), some (vI _), some (vI _), some (vR _), none]) (tk K_X10_vote 3 rfl) rfl (Nat.le_of_ble_eq_true rfl) rfl ?_
  refine x_aload (tk K_X10_vote 4 rfl) rfl ?_
  refine x_ifnull (t := 33) (tk K_X10_vote 5 rfl) rfl (fun hc => ?_) (fun hc => ?_)
  · have h := h.1 hc
    refine x_iconst (tk K_X10_vote 15 rfl) ic_0 ?_
    exact x_ireturn (tk K_X10_vote 16 rfl) rfl (fitZ (Or.inl rfl)).1 h
  · have h := h.2 hc
    refine x_aload (tk K_X10_vote 6 rfl) rfl ?_
    have hS_2 := h.1
    have h := h.2
    refine x_getI (tk K_X10_vote 7 rfl) f_X10_167 rfl (LaS.o hS_2) ?_
    refine x_if_ne (t := 33) (tk K_X10_vote 8 rfl) rfl (fun hc => ?_) (fun hc => ?_)
    · have h := h.1 hc
      refine x_iconst (tk K_X10_vote 15 rfl) ic_0 ?_
      exact x_ireturn (tk K_X10_vote 16 rfl) rfl (fitZ (Or.inl rfl)).1 h
    · have h := h.2 hc
      refine x_iload_n (tk K_X10_vote 9 rfl) rfl rfl ?_
      refine x_if_lt (t := 33) (tk K_X10_vote 10 rfl) rfl (fun hc => ?_) (fun hc => ?_)
      · have h := h.1 hc
        refine x_iconst (tk K_X10_vote 15 rfl) ic_0 ?_
        exact x_ireturn (tk K_X10_vote 16 rfl) rfl (fitZ (Or.inl rfl)).1 h
      · have h := h.2 hc
        refine x_iload_n (tk K_X10_vote 11 rfl) rfl rfl ?_
        refine x_aload (tk K_X10_vote 12 rfl) rfl ?_
        refine x_getI (tk K_X10_vote 13 rfl) f_X10_140 rfl (LaS.o hS_2) ?_
        refine x_icmp_lt (t := 35) (tk K_X10_vote 14 rfl) rfl (fun hc => ?_) (fun hc => ?_)
        · have h := h.1 hc
          refine x_iload_n (tk K_X10_vote 17 rfl) rfl rfl ?_
          refine x_callS0 (As := [vI _]) (S := []) (tk K_X10_vote 18 rfl) mk_X10_171 mo_X10_isParty rfl rfl (Nat.le_of_ble_eq_true rfl) hd h (fun r M2 hq => ?_)
          obtain ⟨x2, rfl, hE, h⟩ := hq
          have hT1 := TpS.ext hT0 hE
          have hT2 := LaS.ext hS_2 hE
          refine x_if_eq (t := 54) (tk K_X10_vote 19 rfl) rfl (fun hc => ?_) (fun hc => ?_)
          · have h := h.1 hc
            refine x_iconst (tk K_X10_vote 25 rfl) ic_0 ?_
            exact x_ireturn (tk K_X10_vote 26 rfl) rfl (fitZ (Or.inl rfl)).1 h
          · have h := h.2 hc
            refine x_iload (tk K_X10_vote 20 rfl) rfl ?_
            refine x_if_lt (t := 54) (tk K_X10_vote 21 rfl) rfl (fun hc => ?_) (fun hc => ?_)
            · have h := h.1 hc
              refine x_iconst (tk K_X10_vote 25 rfl) ic_0 ?_
              exact x_ireturn (tk K_X10_vote 26 rfl) rfl (fitZ (Or.inl rfl)).1 h
            · have h := h.2 hc
              refine x_iload (tk K_X10_vote 22 rfl) rfl ?_
              refine x_bipush (tk K_X10_vote 23 rfl) bp_99 ?_
              refine x_icmp_le (t := 56) (tk K_X10_vote 24 rfl) rfl (fun hc => ?_) (fun hc => ?_)
              · have h := h.1 hc
                refine x_aload (tk K_X10_vote 27 rfl) rfl ?_
                refine x_getRc (tk K_X10_vote 28 rfl) f_X10_164 rfl (LaS.o hT2) (LaS.r5 hT2) ?_
                refine x_iload_n (tk K_X10_vote 29 rfl) rfl rfl ?_
                refine x_iconst (tk K_X10_vote 30 rfl) ic_3 ?_
                refine x_imul (tk K_X10_vote 31 rfl) ?_
                refine x_iload_n (tk K_X10_vote 32 rfl) rfl rfl ?_
                refine x_iadd (tk K_X10_vote 33 rfl) ?_
                refine x_iload (tk K_X10_vote 34 rfl) rfl ?_
                have hi := h.1
                have h := h.2
                have h := h _ rfl
                refine x_iast (tk K_X10_vote 35 rfl) (LaS.k5 hT2) hi ?_
                refine x_aload (tk K_X10_vote 36 rfl) rfl ?_
                refine x_iconst (tk K_X10_vote 37 rfl) ic_1 ?_
                have h := h _ rfl
                refine x_putZ (tk K_X10_vote 38 rfl) f_X10_175 rfl (Or.inl rfl) (LaS.o hT2) (Or.inr rfl) ?_
                refine x_aload_n (tk K_X10_vote 39 rfl) rfl rfl ?_
                refine x_getRc (tk K_X10_vote 40 rfl) f_X10_93 rfl (TpS.o hT1) (TpS.r13 hT1) ?_
                refine x_callV0 (As := []) (S := []) (tk K_X10_vote 41 rfl) mk_X10_178 mo_X5_forget (MiS.o (TpS.k13 hT1)) rfl rfl (Nat.le_of_ble_eq_true rfl) hd h (fun r M5 hq => ?_)
                obtain ⟨rfl, hE, h⟩ := hq
                have hT3 := TpS.ext hT1 hE
                have hT4 := LaS.ext hT2 hE
                have hT5 := MiS.ext (TpS.k13 hT1) hE
                have hT6 := hE.1 _ _ _ (LaS.k5 hT2)
                refine x_iload_n (tk K_X10_vote 42 rfl) rfl rfl ?_
                refine x_bipush (tk K_X10_vote 43 rfl) bp_8 ?_
                refine x_imul (tk K_X10_vote 44 rfl) ?_
                refine x_iconst (tk K_X10_vote 45 rfl) ic_5 ?_
                refine x_imul (tk K_X10_vote 46 rfl) ?_
                have h := h _ rfl
                refine x_istore (L' := [some (vR _), some (vI _), some (vI _), some (vI _), some (vI _), some (vR _), some (vI _)]) (tk K_X10_vote 47 rfl) rfl (Nat.le_of_ble_eq_true rfl) rfl ?_
                refine x_aload_n (tk K_X10_vote 48 rfl) rfl rfl ?_
                refine x_getRc (tk K_X10_vote 49 rfl) f_X10_104 rfl (TpS.o hT3) (TpS.r15 hT3) ?_
                refine x_iload (tk K_X10_vote 50 rfl) rfl ?_
                refine x_iload (tk K_X10_vote 51 rfl) rfl ?_
                refine x_bipush (tk K_X10_vote 52 rfl) bp_40 ?_
                refine x_iadd (tk K_X10_vote 53 rfl) ?_
                refine x_sipush (tk K_X10_vote 54 rfl) sp_m1000 ?_
                refine x_callS0 (As := [vR _, vI _, vI _, vI _]) (S := []) (tk K_X10_vote 55 rfl) mk_X10_181 mo_J7_fill_fda19 rfl rfl (Nat.le_of_ble_eq_true rfl) hd h (fun r M6 hq => ?_)
                obtain ⟨rfl, hE, h⟩ := hq
                have hT7 := TpS.ext hT3 hE
                have hT8 := LaS.ext hT4 hE
                have hT9 := MiS.ext hT5 hE
                have hT10 := hE.1 _ _ _ hT6
                have hT11 := hE.1 _ _ _ (TpS.k15 hT3)
                refine x_iconst (tk K_X10_vote 56 rfl) ic_1 ?_
                exact x_ireturn (tk K_X10_vote 57 rfl) rfl (fitZ (Or.inr rfl)).1 h
              · have h := h.2 hc
                refine x_iconst (tk K_X10_vote 25 rfl) ic_0 ?_
                exact x_ireturn (tk K_X10_vote 26 rfl) rfl (fitZ (Or.inl rfl)).1 h
        · have h := h.2 hc
          refine x_iconst (tk K_X10_vote 15 rfl) ic_0 ?_
          exact x_ireturn (tk K_X10_vote 16 rfl) rfl (fitZ (Or.inl rfl)).1 h

theorem e_X10_vote {X : Cx} {d kc ns : Nat} {M : Mem} {Q : Option AV → Mem → Prop} {a1 : Int32} {a2 : Int32} {a3 : Int32} {a4 : Int32} (h : WA X d kc ns m_X10_vote 0 [some (vR 1), some (vI a1), some (vI a2), some (vI a3), some (vI a4), none, none] [] M Q) : Cl X d kc ns m_X10_vote [vR 1, vI a1, vI a2, vI a3, vI a4] M Q := Cl.intro (k := 2) (by decide) rfl rfl h

-- TwoPencils.judge(II)I
theorem b_X10_judge_0 {X : Cx} {d kc ns : Nat} {M : Mem} {Q : Option AV → Mem → Prop} {l1 : Int32} {l2 : Int32} (hS : TpS M) (hd : 1 ≤ d)
    (h : Cl X (d - 1) 0 0 m_X10_readyLand [vR 1, vI l1] M (fun r M1 => ∃ x1 : Nat, r = some (vR x1) ∧ Ext M M1 ∧ ((¬ x1 = 0 → LaS M1 x1 ∧ Cl X (d - 1) 0 0 m_X3_judged [vR x1, vI l2, vR 73] M1 (fun r M2 => ∃ x2 : Int32, r = some (vI x2) ∧ Ext M1 M2 ∧ Q (some (vI x2)) M2)) ∧ (x1 = 0 → Q (some (vI (-1))) M1)))) :
    WA X d kc ns m_X10_judge 0 [some (vR 1), some (vI l1), some (vI l2), none] [] M Q := by
  refine x_aload_n (tk K_X10_judge 0 rfl) rfl rfl ?_
  refine x_iload_n (tk K_X10_judge 1 rfl) rfl rfl ?_
  refine x_callV0 (As := [vI _]) (S := []) (tk K_X10_judge 2 rfl) mk_X10_184 mo_X10_readyLand (TpS.o hS) rfl rfl (Nat.le_of_ble_eq_true rfl) hd h (fun r M1 hq => ?_)
  obtain ⟨x1, rfl, hE, h⟩ := hq
  have hT0 := TpS.ext hS hE
  refine x_astore_n (L' := [some (vR _), some (vI _), some (vI _), some (vR _)]) (tk K_X10_judge 3 rfl) rfl rfl (Nat.le_of_ble_eq_true rfl) rfl ?_
  refine x_aload_n (tk K_X10_judge 4 rfl) rfl rfl ?_
  refine x_ifnonnull (t := 14) (tk K_X10_judge 5 rfl) rfl (fun hc => ?_) (fun hc => ?_)
  · have h := h.1 hc
    refine x_aload_n (tk K_X10_judge 8 rfl) rfl rfl ?_
    refine x_iload_n (tk K_X10_judge 9 rfl) rfl rfl ?_
    refine x_aload_n (tk K_X10_judge 10 rfl) rfl rfl ?_
    refine x_getRc (tk K_X10_judge 11 rfl) f_X10_108 rfl (TpS.o hT0) (TpS.r16 hT0) ?_
    have hS_2 := h.1
    have h := h.2
    refine x_callV0 (As := [vI _, vR _]) (S := []) (tk K_X10_judge 12 rfl) mk_X10_187 mo_X3_judged (LaS.o hS_2) rfl rfl (Nat.le_of_ble_eq_true rfl) hd h (fun r M2 hq => ?_)
    obtain ⟨x2, rfl, hE, h⟩ := hq
    have hT1 := TpS.ext hT0 hE
    have hT2 := LaS.ext hS_2 hE
    have hT3 := hE.1 _ _ _ (TpS.k16 hT0)
    exact x_ireturn (tk K_X10_judge 13 rfl) rfl rfl h
  · have h := h.2 hc
    refine x_iconst (tk K_X10_judge 6 rfl) ic_m1 ?_
    refine x_goto (t := 23) (tk K_X10_judge 7 rfl) rfl ?_
    exact x_ireturn (tk K_X10_judge 13 rfl) rfl rfl h

theorem e_X10_judge {X : Cx} {d kc ns : Nat} {M : Mem} {Q : Option AV → Mem → Prop} {a1 : Int32} {a2 : Int32} (h : WA X d kc ns m_X10_judge 0 [some (vR 1), some (vI a1), some (vI a2), none] [] M Q) : Cl X d kc ns m_X10_judge [vR 1, vI a1, vI a2] M Q := Cl.intro (k := 1) (by decide) rfl rfl h

-- TwoPencils.won(III)I
theorem b_X10_won_0 {X : Cx} {d kc ns : Nat} {M : Mem} {Q : Option AV → Mem → Prop} {l1 : Int32} {l2 : Int32} {l3 : Int32} (hS : TpS M) (hd : 1 ≤ d)
    (h : Cl X (d - 1) 0 0 m_X10_landWithLawful [vR 1, vI l1, vI l2] M (fun r M1 => ∃ x1 : Nat, r = some (vR x1) ∧ Ext M M1 ∧ ((x1 = 0 → Q (some (vI (-1))) M1) ∧ (¬ x1 = 0 → ((l3 < nI 0 → Q (some (vI (-1))) M1) ∧ (¬ l3 < nI 0 → LaS M1 x1 ∧ ((l3 < (mI M1 x1 1) → vp_in l3 8 ∧ Cl X (d - 1) 0 0 m_X3_winnerIn [vR x1, vI (mI M1 73 (ix l3))] M1 (fun r M2 => ∃ x2 : Int32, r = some (vI x2) ∧ Ext M1 M2 ∧ Q (some (vI x2)) M2)) ∧ (¬ l3 < (mI M1 x1 1) → Q (some (vI (-1))) M1)))))))) :
    WA X d kc ns m_X10_won 0 [some (vR 1), some (vI l1), some (vI l2), some (vI l3), none] [] M Q := by
  refine x_aload_n (tk K_X10_won 0 rfl) rfl rfl ?_
  refine x_iload_n (tk K_X10_won 1 rfl) rfl rfl ?_
  refine x_iload_n (tk K_X10_won 2 rfl) rfl rfl ?_
  refine x_callV0 (As := [vI _, vI _]) (S := []) (tk K_X10_won 3 rfl) mk_X10_191 mo_X10_landWithLawful (TpS.o hS) rfl rfl (Nat.le_of_ble_eq_true rfl) hd h (fun r M1 hq => ?_)
  obtain ⟨x1, rfl, hE, h⟩ := hq
  have hT0 := TpS.ext hS hE
  refine x_astore (L' := [some (vR _), some (vI _), some (vI _), some (vI _), some (vR _)]) (tk K_X10_won 4 rfl) rfl (Nat.le_of_ble_eq_true rfl) rfl ?_
  refine x_aload (tk K_X10_won 5 rfl) rfl ?_
  refine x_ifnull (t := 26) (tk K_X10_won 6 rfl) rfl (fun hc => ?_) (fun hc => ?_)
  · have h := h.1 hc
    refine x_iconst (tk K_X10_won 13 rfl) ic_m1 ?_
    exact x_ireturn (tk K_X10_won 14 rfl) rfl rfl h
  · have h := h.2 hc
    refine x_iload_n (tk K_X10_won 7 rfl) rfl rfl ?_
    refine x_if_lt (t := 26) (tk K_X10_won 8 rfl) rfl (fun hc => ?_) (fun hc => ?_)
    · have h := h.1 hc
      refine x_iconst (tk K_X10_won 13 rfl) ic_m1 ?_
      exact x_ireturn (tk K_X10_won 14 rfl) rfl rfl h
    · have h := h.2 hc
      refine x_iload_n (tk K_X10_won 9 rfl) rfl rfl ?_
      refine x_aload (tk K_X10_won 10 rfl) rfl ?_
      have hS_2 := h.1
      have h := h.2
      refine x_getI (tk K_X10_won 11 rfl) f_X10_143 rfl (LaS.o hS_2) ?_
      refine x_icmp_lt (t := 28) (tk K_X10_won 12 rfl) rfl (fun hc => ?_) (fun hc => ?_)
      · have h := h.1 hc
        refine x_aload (tk K_X10_won 15 rfl) rfl ?_
        refine x_aload_n (tk K_X10_won 16 rfl) rfl rfl ?_
        refine x_getRc (tk K_X10_won 17 rfl) f_X10_108 rfl (TpS.o hT0) (TpS.r16 hT0) ?_
        refine x_iload_n (tk K_X10_won 18 rfl) rfl rfl ?_
        have hi := h.1
        have h := h.2
        refine x_iald (tk K_X10_won 19 rfl) (TpS.k16 hT0) hi ?_
        refine x_callV0 (As := [vI _]) (S := []) (tk K_X10_won 20 rfl) mk_X10_195 mo_X3_winnerIn (LaS.o hS_2) rfl rfl (Nat.le_of_ble_eq_true rfl) hd h (fun r M2 hq => ?_)
        obtain ⟨x2, rfl, hE, h⟩ := hq
        have hT1 := TpS.ext hT0 hE
        have hT2 := LaS.ext hS_2 hE
        have hT3 := hE.1 _ _ _ (TpS.k16 hT0)
        exact x_ireturn (tk K_X10_won 21 rfl) rfl rfl h
      · have h := h.2 hc
        refine x_iconst (tk K_X10_won 13 rfl) ic_m1 ?_
        exact x_ireturn (tk K_X10_won 14 rfl) rfl rfl h

theorem e_X10_won {X : Cx} {d kc ns : Nat} {M : Mem} {Q : Option AV → Mem → Prop} {a1 : Int32} {a2 : Int32} {a3 : Int32} (h : WA X d kc ns m_X10_won 0 [some (vR 1), some (vI a1), some (vI a2), some (vI a3), none] [] M Q) : Cl X d kc ns m_X10_won [vR 1, vI a1, vI a2, vI a3] M Q := Cl.intro (k := 1) (by decide) rfl rfl h

-- TwoPencils.seats(III)I
theorem b_X10_seats_0 {X : Cx} {d kc ns : Nat} {M : Mem} {Q : Option AV → Mem → Prop} {l1 : Int32} {l2 : Int32} {l3 : Int32} (hS : TpS M) (hd : 1 ≤ d)
    (h : Cl X (d - 1) 0 0 m_X10_landWithLawful [vR 1, vI l1, vI l2] M (fun r M1 => ∃ x1 : Nat, r = some (vR x1) ∧ Ext M M1 ∧ ((x1 = 0 → Q (some (vI (-1))) M1) ∧ (¬ x1 = 0 → Cl X (d - 1) 0 0 m_X10_isParty [vI l3] M1 (fun r M2 => ∃ x2 : Int32, r = some (vI x2) ∧ Ext M1 M2 ∧ ((¬ x2 = nI 0 → LaS M2 x1 ∧ Cl X (d - 1) 0 0 m_X3_wins [vR x1, vR 73, vI l3] M2 (fun r M3 => ∃ x3 : Int32, r = some (vI x3) ∧ Ext M2 M3 ∧ Q (some (vI x3)) M3)) ∧ (x2 = nI 0 → Q (some (vI (-1))) M2))))))) :
    WA X d kc ns m_X10_seats 0 [some (vR 1), some (vI l1), some (vI l2), some (vI l3), none] [] M Q := by
  refine x_aload_n (tk K_X10_seats 0 rfl) rfl rfl ?_
  refine x_iload_n (tk K_X10_seats 1 rfl) rfl rfl ?_
  refine x_iload_n (tk K_X10_seats 2 rfl) rfl rfl ?_
  refine x_callV0 (As := [vI _, vI _]) (S := []) (tk K_X10_seats 3 rfl) mk_X10_191 mo_X10_landWithLawful (TpS.o hS) rfl rfl (Nat.le_of_ble_eq_true rfl) hd h (fun r M1 hq => ?_)
  obtain ⟨x1, rfl, hE, h⟩ := hq
  have hT0 := TpS.ext hS hE
  refine x_astore (L' := [some (vR _), some (vI _), some (vI _), some (vI _), some (vR _)]) (tk K_X10_seats 4 rfl) rfl (Nat.le_of_ble_eq_true rfl) rfl ?_
  refine x_aload (tk K_X10_seats 5 rfl) rfl ?_
  refine x_ifnull (t := 20) (tk K_X10_seats 6 rfl) rfl (fun hc => ?_) (fun hc => ?_)
  · have h := h.1 hc
    refine x_iconst (tk K_X10_seats 10 rfl) ic_m1 ?_
    refine x_goto (t := 34) (tk K_X10_seats 11 rfl) rfl ?_
    exact x_ireturn (tk K_X10_seats 17 rfl) rfl rfl h
  · have h := h.2 hc
    refine x_iload_n (tk K_X10_seats 7 rfl) rfl rfl ?_
    refine x_callS0 (As := [vI _]) (S := []) (tk K_X10_seats 8 rfl) mk_X10_171 mo_X10_isParty rfl rfl (Nat.le_of_ble_eq_true rfl) hd h (fun r M2 hq => ?_)
    obtain ⟨x2, rfl, hE, h⟩ := hq
    have hT1 := TpS.ext hT0 hE
    refine x_if_ne (t := 24) (tk K_X10_seats 9 rfl) rfl (fun hc => ?_) (fun hc => ?_)
    · have h := h.1 hc
      refine x_aload (tk K_X10_seats 12 rfl) rfl ?_
      refine x_aload_n (tk K_X10_seats 13 rfl) rfl rfl ?_
      refine x_getRc (tk K_X10_seats 14 rfl) f_X10_108 rfl (TpS.o hT1) (TpS.r16 hT1) ?_
      refine x_iload_n (tk K_X10_seats 15 rfl) rfl rfl ?_
      have hS_2 := h.1
      have h := h.2
      refine x_callV0 (As := [vR _, vI _]) (S := []) (tk K_X10_seats 16 rfl) mk_X10_198 mo_X3_wins (LaS.o hS_2) rfl rfl (Nat.le_of_ble_eq_true rfl) hd h (fun r M3 hq => ?_)
      obtain ⟨x3, rfl, hE, h⟩ := hq
      have hT2 := TpS.ext hT1 hE
      have hT3 := LaS.ext hS_2 hE
      have hT4 := hE.1 _ _ _ (TpS.k16 hT1)
      exact x_ireturn (tk K_X10_seats 17 rfl) rfl rfl h
    · have h := h.2 hc
      refine x_iconst (tk K_X10_seats 10 rfl) ic_m1 ?_
      refine x_goto (t := 34) (tk K_X10_seats 11 rfl) rfl ?_
      exact x_ireturn (tk K_X10_seats 17 rfl) rfl rfl h

theorem e_X10_seats {X : Cx} {d kc ns : Nat} {M : Mem} {Q : Option AV → Mem → Prop} {a1 : Int32} {a2 : Int32} {a3 : Int32} (h : WA X d kc ns m_X10_seats 0 [some (vR 1), some (vI a1), some (vI a2), some (vI a3), none] [] M Q) : Cl X d kc ns m_X10_seats [vR 1, vI a1, vI a2, vI a3] M Q := Cl.intro (k := 1) (by decide) rfl rfl h

-- TwoPencils.all(II)I
theorem b_X10_all_0 {X : Cx} {d kc ns : Nat} {M : Mem} {Q : Option AV → Mem → Prop} {l1 : Int32} {l2 : Int32} (hS : TpS M) (hd : 1 ≤ d)
    (h : Cl X (d - 1) 0 0 m_X10_readyLand [vR 1, vI l1] M (fun r M1 => ∃ x1 : Nat, r = some (vR x1) ∧ Ext M M1 ∧ ((¬ x1 = 0 → LaS M1 x1 ∧ ∃ kb1 nb1 : Nat, kb1 ≤ kc ∧ nb1 ≤ ns ∧ Cl X (d - 1) kb1 nb1 m_X3_rollOfCuts [vR x1, vR 29] M1 (fun r M2 => ∃ x2 : Nat, r = some (vR x2) ∧ Ext M1 M2 ∧ ((¬ l2 = (-1) → ((l2 < nI 0 → Q (some (vI (-1))) M2) ∧ (¬ l2 < nI 0 → RoS M2 x2 ∧ (((mI M2 x2 2) ≤ l2 → Q (some (vI (-1))) M2) ∧ (¬ (mI M2 x2 2) ≤ l2 → ∃ n3 : Nat, isK M2 (mR M2 x2 0) 14 n3 ∧ vp_in l2 n3 ∧ Q (some (vI (mI M2 (mR M2 x2 0) (ix l2)))) M2))))) ∧ (l2 = (-1) → RoS M2 x2 ∧ Q (some (vI (mI M2 x2 2))) M2)))) ∧ (x1 = 0 → Q (some (vI (-1))) M1)))) :
    WA X d kc ns m_X10_all 0 [some (vR 1), some (vI l1), some (vI l2), none, none] [] M Q := by
  refine x_aload_n (tk K_X10_all 0 rfl) rfl rfl ?_
  refine x_iload_n (tk K_X10_all 1 rfl) rfl rfl ?_
  refine x_callV0 (As := [vI _]) (S := []) (tk K_X10_all 2 rfl) mk_X10_184 mo_X10_readyLand (TpS.o hS) rfl rfl (Nat.le_of_ble_eq_true rfl) hd h (fun r M1 hq => ?_)
  obtain ⟨x1, rfl, hE, h⟩ := hq
  have hT0 := TpS.ext hS hE
  refine x_astore_n (L' := [some (vR _), some (vI _), some (vI _), some (vR _), none]) (tk K_X10_all 3 rfl) rfl rfl (Nat.le_of_ble_eq_true rfl) rfl ?_
  refine x_aload_n (tk K_X10_all 4 rfl) rfl rfl ?_
  refine x_ifnonnull (t := 12) (tk K_X10_all 5 rfl) rfl (fun hc => ?_) (fun hc => ?_)
  · have h := h.1 hc
    refine x_aload_n (tk K_X10_all 8 rfl) rfl rfl ?_
    refine x_aload_n (tk K_X10_all 9 rfl) rfl rfl ?_
    refine x_getRc (tk K_X10_all 10 rfl) f_X10_75 rfl (TpS.o hT0) (TpS.r11 hT0) ?_
    have hS_3 := h.1
    have h := h.2
    obtain ⟨kb1, nb1, hk1, hn1, h⟩ := h
    refine x_callV (As := [vR _]) (S := []) (tk K_X10_all 11 rfl) mk_X10_202 mo_X3_rollOfCuts (LaS.o hS_3) rfl rfl (Nat.le_of_ble_eq_true rfl) hd hk1 hn1 h (fun r M2 hq => ?_)
    obtain ⟨x2, rfl, hE, h⟩ := hq
    have hT1 := TpS.ext hT0 hE
    have hT2 := CuS.ext (TpS.k11 hT0) hE
    have hT3 := LaS.ext hS_3 hE
    refine x_astore (L' := [some (vR _), some (vI _), some (vI _), some (vR _), some (vR _)]) (tk K_X10_all 12 rfl) rfl (Nat.le_of_ble_eq_true rfl) rfl ?_
    refine x_iload_n (tk K_X10_all 13 rfl) rfl rfl ?_
    refine x_iconst (tk K_X10_all 14 rfl) ic_m1 ?_
    refine x_icmp_ne (t := 33) (tk K_X10_all 15 rfl) rfl (fun hc => ?_) (fun hc => ?_)
    · have h := h.1 hc
      refine x_iload_n (tk K_X10_all 19 rfl) rfl rfl ?_
      refine x_if_lt (t := 56) (tk K_X10_all 20 rfl) rfl (fun hc => ?_) (fun hc => ?_)
      · have h := h.1 hc
        refine x_iconst (tk K_X10_all 30 rfl) ic_m1 ?_
        exact x_ireturn (tk K_X10_all 31 rfl) rfl rfl h
      · have h := h.2 hc
        refine x_iload_n (tk K_X10_all 21 rfl) rfl rfl ?_
        refine x_aload (tk K_X10_all 22 rfl) rfl ?_
        have hS_24 := h.1
        have h := h.2
        refine x_getI (tk K_X10_all 23 rfl) f_X10_206 rfl (RoS.o hS_24) ?_
        refine x_icmp_ge (t := 56) (tk K_X10_all 24 rfl) rfl (fun hc => ?_) (fun hc => ?_)
        · have h := h.1 hc
          refine x_iconst (tk K_X10_all 30 rfl) ic_m1 ?_
          exact x_ireturn (tk K_X10_all 31 rfl) rfl rfl h
        · have h := h.2 hc
          refine x_aload (tk K_X10_all 25 rfl) rfl ?_
          refine x_getR (tk K_X10_all 26 rfl) f_X10_211 rfl (RoS.o hS_24) ?_
          refine x_iload_n (tk K_X10_all 27 rfl) rfl rfl ?_
          obtain ⟨n3, hA_n3, h⟩ := h
          have hi := h.1
          have h := h.2
          refine x_iald (tk K_X10_all 28 rfl) hA_n3 hi ?_
          refine x_goto (t := 57) (tk K_X10_all 29 rfl) rfl ?_
          exact x_ireturn (tk K_X10_all 31 rfl) rfl rfl h
    · have h := h.2 hc
      refine x_aload (tk K_X10_all 16 rfl) rfl ?_
      have hS_64 := h.1
      have h := h.2
      refine x_getI (tk K_X10_all 17 rfl) f_X10_206 rfl (RoS.o hS_64) ?_
      exact x_ireturn (tk K_X10_all 18 rfl) rfl rfl h
  · have h := h.2 hc
    refine x_iconst (tk K_X10_all 6 rfl) ic_m1 ?_
    exact x_ireturn (tk K_X10_all 7 rfl) rfl rfl h

theorem e_X10_all {X : Cx} {d kc ns : Nat} {M : Mem} {Q : Option AV → Mem → Prop} {a1 : Int32} {a2 : Int32} (h : WA X d kc ns m_X10_all 0 [some (vR 1), some (vI a1), some (vI a2), none, none] [] M Q) : Cl X d kc ns m_X10_all [vR 1, vI a1, vI a2] M Q := Cl.intro (k := 2) (by decide) rfl rfl h

-- TwoPencils.alone(III)I
theorem b_X10_alone_0 {X : Cx} {d kc ns : Nat} {M : Mem} {Q : Option AV → Mem → Prop} {l1 : Int32} {l2 : Int32} {l3 : Int32} (hS : TpS M) (hd : 1 ≤ d)
    (h : Cl X (d - 1) 0 0 m_X10_readyLand [vR 1, vI l1] M (fun r M1 => ∃ x1 : Nat, r = some (vR x1) ∧ Ext M M1 ∧ ((x1 = 0 → Q (some (vI (-1))) M1) ∧ (¬ x1 = 0 → Cl X (d - 1) 0 0 m_X10_isParty [vI l2] M1 (fun r M2 => ∃ x2 : Int32, r = some (vI x2) ∧ Ext M1 M2 ∧ ((x2 = nI 0 → Q (some (vI (-1))) M2) ∧ (¬ x2 = nI 0 → ((l3 < nI 0 → Q (some (vI (-1))) M2) ∧ (¬ l3 < nI 0 → ((l3 ≤ (nI 2) → LaS M2 x1 ∧ ∃ kb1 nb1 : Nat, kb1 ≤ kc ∧ nb1 ≤ ns ∧ Cl X (d - 1) kb1 nb1 m_X3_rollOfCuts [vR x1, vR 29] M2 (fun r M3 => ∃ x3 : Nat, r = some (vR x3) ∧ Ext M2 M3 ∧ RoS M3 x3 ∧ ((¬ (mI M3 x3 2) = nI 0 → ((¬ l3 = (nI 1) → Cl X (d - 1) 0 0 m_X8_most [vR x3, vI l2] M3 (fun r M4 => ∃ x4 : Int32, r = some (vI x4) ∧ Ext M3 M4 ∧ ((¬ l3 = nI 0 → Cl X (d - 1) 0 0 m_X8_earliest [vR x3, vI l2, vI x4] M4 (fun r M5 => ∃ x5 : Int32, r = some (vI x5) ∧ Ext M4 M5 ∧ Q (some (vI x5)) M5)) ∧ (l3 = nI 0 → Q (some (vI x4)) M4)))) ∧ (l3 = (nI 1) → Cl X (d - 1) 0 0 m_X8_fewest [vR x3, vI l2] M3 (fun r M6 => ∃ x6 : Int32, r = some (vI x6) ∧ Ext M3 M6 ∧ Q (some (vI x6)) M6)))) ∧ ((mI M3 x3 2) = nI 0 → Q (some (vI (-1))) M3)))) ∧ (¬ l3 ≤ (nI 2) → Q (some (vI (-1))) M2))))))))))) :
    WA X d kc ns m_X10_alone 0 [some (vR 1), some (vI l1), some (vI l2), some (vI l3), none, none, none] [] M Q := by
  refine x_aload_n (tk K_X10_alone 0 rfl) rfl rfl ?_
  refine x_iload_n (tk K_X10_alone 1 rfl) rfl rfl ?_
  refine x_callV0 (As := [vI _]) (S := []) (tk K_X10_alone 2 rfl) mk_X10_184 mo_X10_readyLand (TpS.o hS) rfl rfl (Nat.le_of_ble_eq_true rfl) hd h (fun r M1 hq => ?_)
  obtain ⟨x1, rfl, hE, h⟩ := hq
  have hT0 := TpS.ext hS hE
  refine x_astore (L' := [some (vR _), some (vI _), some (vI _), some (vI _), some (vR _), none, none]) (tk K_X10_alone 3 rfl) rfl (Nat.le_of_ble_eq_true rfl) rfl ?_
  refine x_aload (tk K_X10_alone 4 rfl) rfl ?_
  refine x_ifnull (t := 28) (tk K_X10_alone 5 rfl) rfl (fun hc => ?_) (fun hc => ?_)
  · have h := h.1 hc
    refine x_iconst (tk K_X10_alone 14 rfl) ic_m1 ?_
    exact x_ireturn (tk K_X10_alone 15 rfl) rfl rfl h
  · have h := h.2 hc
    refine x_iload_n (tk K_X10_alone 6 rfl) rfl rfl ?_
    refine x_callS0 (As := [vI _]) (S := []) (tk K_X10_alone 7 rfl) mk_X10_171 mo_X10_isParty rfl rfl (Nat.le_of_ble_eq_true rfl) hd h (fun r M2 hq => ?_)
    obtain ⟨x2, rfl, hE, h⟩ := hq
    have hT1 := TpS.ext hT0 hE
    refine x_if_eq (t := 28) (tk K_X10_alone 8 rfl) rfl (fun hc => ?_) (fun hc => ?_)
    · have h := h.1 hc
      refine x_iconst (tk K_X10_alone 14 rfl) ic_m1 ?_
      exact x_ireturn (tk K_X10_alone 15 rfl) rfl rfl h
    · have h := h.2 hc
      refine x_iload_n (tk K_X10_alone 9 rfl) rfl rfl ?_
      refine x_if_lt (t := 28) (tk K_X10_alone 10 rfl) rfl (fun hc => ?_) (fun hc => ?_)
      · have h := h.1 hc
        refine x_iconst (tk K_X10_alone 14 rfl) ic_m1 ?_
        exact x_ireturn (tk K_X10_alone 15 rfl) rfl rfl h
      · have h := h.2 hc
        refine x_iload_n (tk K_X10_alone 11 rfl) rfl rfl ?_
        refine x_iconst (tk K_X10_alone 12 rfl) ic_2 ?_
        refine x_icmp_le (t := 30) (tk K_X10_alone 13 rfl) rfl (fun hc => ?_) (fun hc => ?_)
        · have h := h.1 hc
          refine x_aload (tk K_X10_alone 16 rfl) rfl ?_
          refine x_aload_n (tk K_X10_alone 17 rfl) rfl rfl ?_
          refine x_getRc (tk K_X10_alone 18 rfl) f_X10_75 rfl (TpS.o hT1) (TpS.r11 hT1) ?_
          have hS_3 := h.1
          have h := h.2
          obtain ⟨kb1, nb1, hk1, hn1, h⟩ := h
          refine x_callV (As := [vR _]) (S := []) (tk K_X10_alone 19 rfl) mk_X10_202 mo_X3_rollOfCuts (LaS.o hS_3) rfl rfl (Nat.le_of_ble_eq_true rfl) hd hk1 hn1 h (fun r M3 hq => ?_)
          obtain ⟨x3, rfl, hE, h⟩ := hq
          have hT2 := TpS.ext hT1 hE
          have hT3 := CuS.ext (TpS.k11 hT1) hE
          have hT4 := LaS.ext hS_3 hE
          refine x_astore (L' := [some (vR _), some (vI _), some (vI _), some (vI _), some (vR _), some (vR _), none]) (tk K_X10_alone 20 rfl) rfl (Nat.le_of_ble_eq_true rfl) rfl ?_
          refine x_aload (tk K_X10_alone 21 rfl) rfl ?_
          have hS_24 := h.1
          have h := h.2
          refine x_getI (tk K_X10_alone 22 rfl) f_X10_206 rfl (RoS.o hS_24) ?_
          refine x_if_ne (t := 51) (tk K_X10_alone 23 rfl) rfl (fun hc => ?_) (fun hc => ?_)
          · have h := h.1 hc
            refine x_iload_n (tk K_X10_alone 26 rfl) rfl rfl ?_
            refine x_iconst (tk K_X10_alone 27 rfl) ic_1 ?_
            refine x_icmp_ne (t := 63) (tk K_X10_alone 28 rfl) rfl (fun hc => ?_) (fun hc => ?_)
            · have h := h.1 hc
              refine x_aload (tk K_X10_alone 33 rfl) rfl ?_
              refine x_iload_n (tk K_X10_alone 34 rfl) rfl rfl ?_
              refine x_callV0 (As := [vI _]) (S := []) (tk K_X10_alone 35 rfl) mk_X10_217 mo_X8_most (RoS.o hS_24) rfl rfl (Nat.le_of_ble_eq_true rfl) hd h (fun r M4 hq => ?_)
              obtain ⟨x4, rfl, hE, h⟩ := hq
              have hT5 := TpS.ext hT2 hE
              have hT6 := CuS.ext hT3 hE
              have hT7 := LaS.ext hT4 hE
              have hT8 := RoS.ext hS_24 hE
              refine x_istore (L' := [some (vR _), some (vI _), some (vI _), some (vI _), some (vR _), some (vR _), some (vI _)]) (tk K_X10_alone 36 rfl) rfl (Nat.le_of_ble_eq_true rfl) rfl ?_
              refine x_iload_n (tk K_X10_alone 37 rfl) rfl rfl ?_
              refine x_if_ne (t := 80) (tk K_X10_alone 38 rfl) rfl (fun hc => ?_) (fun hc => ?_)
              · have h := h.1 hc
                refine x_aload (tk K_X10_alone 41 rfl) rfl ?_
                refine x_iload_n (tk K_X10_alone 42 rfl) rfl rfl ?_
                refine x_iload (tk K_X10_alone 43 rfl) rfl ?_
                refine x_callV0 (As := [vI _, vI _]) (S := []) (tk K_X10_alone 44 rfl) mk_X10_220 mo_X8_earliest (RoS.o hT8) rfl rfl (Nat.le_of_ble_eq_true rfl) hd h (fun r M5 hq => ?_)
                obtain ⟨x5, rfl, hE, h⟩ := hq
                have hT9 := TpS.ext hT5 hE
                have hT10 := CuS.ext hT6 hE
                have hT11 := LaS.ext hT7 hE
                have hT12 := RoS.ext hT8 hE
                exact x_ireturn (tk K_X10_alone 45 rfl) rfl rfl h
              · have h := h.2 hc
                refine x_iload (tk K_X10_alone 39 rfl) rfl ?_
                refine x_goto (t := 88) (tk K_X10_alone 40 rfl) rfl ?_
                exact x_ireturn (tk K_X10_alone 45 rfl) rfl rfl h
            · have h := h.2 hc
              refine x_aload (tk K_X10_alone 29 rfl) rfl ?_
              refine x_iload_n (tk K_X10_alone 30 rfl) rfl rfl ?_
              refine x_callV0 (As := [vI _]) (S := []) (tk K_X10_alone 31 rfl) mk_X10_214 mo_X8_fewest (RoS.o hS_24) rfl rfl (Nat.le_of_ble_eq_true rfl) hd h (fun r M6 hq => ?_)
              obtain ⟨x6, rfl, hE, h⟩ := hq
              have hT13 := TpS.ext hT2 hE
              have hT14 := CuS.ext hT3 hE
              have hT15 := LaS.ext hT4 hE
              have hT16 := RoS.ext hS_24 hE
              exact x_ireturn (tk K_X10_alone 32 rfl) rfl rfl h
          · have h := h.2 hc
            refine x_iconst (tk K_X10_alone 24 rfl) ic_m1 ?_
            exact x_ireturn (tk K_X10_alone 25 rfl) rfl rfl h
        · have h := h.2 hc
          refine x_iconst (tk K_X10_alone 14 rfl) ic_m1 ?_
          exact x_ireturn (tk K_X10_alone 15 rfl) rfl rfl h

theorem e_X10_alone {X : Cx} {d kc ns : Nat} {M : Mem} {Q : Option AV → Mem → Prop} {a1 : Int32} {a2 : Int32} {a3 : Int32} (h : WA X d kc ns m_X10_alone 0 [some (vR 1), some (vI a1), some (vI a2), some (vI a3), none, none, none] [] M Q) : Cl X d kc ns m_X10_alone [vR 1, vI a1, vI a2, vI a3] M Q := Cl.intro (k := 3) (by decide) rfl rfl h

-- TwoPencils.luck(IIII)I
theorem b_X10_luck_0 {X : Cx} {d kc ns : Nat} {M : Mem} {Q : Option AV → Mem → Prop} {l1 : Int32} {l2 : Int32} {l3 : Int32} {l4 : Int32} (hS : TpS M) (hd : 1 ≤ d)
    (h : Cl X (d - 1) 0 0 m_X10_landWithLawful [vR 1, vI l1, vI l2] M (fun r M1 => ∃ x1 : Nat, r = some (vR x1) ∧ Ext M M1 ∧ ((x1 = 0 → Q (some (vI (-1))) M1) ∧ (¬ x1 = 0 → Cl X (d - 1) 0 0 m_X10_isParty [vI l3] M1 (fun r M2 => ∃ x2 : Int32, r = some (vI x2) ∧ Ext M1 M2 ∧ ((x2 = nI 0 → Q (some (vI (-1))) M2) ∧ (¬ x2 = nI 0 → ((l4 < nI 0 → Q (some (vI (-1))) M2) ∧ (¬ l4 < nI 0 → ((l4 ≤ (nI 1) → LaS M2 x1 ∧ Cl X (d - 1) 0 0 m_X3_wins [vR x1, vR 73, vI l3] M2 (fun r M3 => ∃ x3 : Int32, r = some (vI x3) ∧ Ext M2 M3 ∧ ∃ kb1 nb1 : Nat, kb1 ≤ kc ∧ nb1 ≤ ns ∧ Cl X (d - 1) kb1 nb1 m_X3_rollOfCuts [vR x1, vR 29] M3 (fun r M4 => ∃ x4 : Nat, r = some (vR x4) ∧ Ext M3 M4 ∧ ((¬ l4 = nI 0 → RoS M4 x4 ∧ Cl X (d - 1) 0 0 m_X8_howMany [vR x4, vI l3, vI (nI 0), vI (x3 - (nI 1))] M4 (fun r M5 => ∃ x5 : Int32, r = some (vI x5) ∧ Ext M4 M5 ∧ Q (some (vI x5)) M5)) ∧ (l4 = nI 0 → RoS M4 x4 ∧ Cl X (d - 1) 0 0 m_X8_howMany [vR x4, vI l3, vI (x3 + (nI 1)), vI (nI 4)] M4 (fun r M6 => ∃ x6 : Int32, r = some (vI x6) ∧ Ext M4 M6 ∧ Q (some (vI x6)) M6)))))) ∧ (¬ l4 ≤ (nI 1) → Q (some (vI (-1))) M2))))))))))) :
    WA X d kc ns m_X10_luck 0 [some (vR 1), some (vI l1), some (vI l2), some (vI l3), some (vI l4), none, none, none] [] M Q := by
  refine x_aload_n (tk K_X10_luck 0 rfl) rfl rfl ?_
  refine x_iload_n (tk K_X10_luck 1 rfl) rfl rfl ?_
  refine x_iload_n (tk K_X10_luck 2 rfl) rfl rfl ?_
  refine x_callV0 (As := [vI _, vI _]) (S := []) (tk K_X10_luck 3 rfl) mk_X10_191 mo_X10_landWithLawful (TpS.o hS) rfl rfl (Nat.le_of_ble_eq_true rfl) hd h (fun r M1 hq => ?_)
  obtain ⟨x1, rfl, hE, h⟩ := hq
  have hT0 := TpS.ext hS hE
  refine x_astore (L' := [some (vR _), some (vI _), some (vI _), some (vI _), some (vI _), some (vR _), none, none]) (tk K_X10_luck 4 rfl) rfl (Nat.le_of_ble_eq_true rfl) rfl ?_
  refine x_aload (tk K_X10_luck 5 rfl) rfl ?_
  refine x_ifnull (t := 31) (tk K_X10_luck 6 rfl) rfl (fun hc => ?_) (fun hc => ?_)
  · have h := h.1 hc
    refine x_iconst (tk K_X10_luck 15 rfl) ic_m1 ?_
    exact x_ireturn (tk K_X10_luck 16 rfl) rfl rfl h
  · have h := h.2 hc
    refine x_iload_n (tk K_X10_luck 7 rfl) rfl rfl ?_
    refine x_callS0 (As := [vI _]) (S := []) (tk K_X10_luck 8 rfl) mk_X10_171 mo_X10_isParty rfl rfl (Nat.le_of_ble_eq_true rfl) hd h (fun r M2 hq => ?_)
    obtain ⟨x2, rfl, hE, h⟩ := hq
    have hT1 := TpS.ext hT0 hE
    refine x_if_eq (t := 31) (tk K_X10_luck 9 rfl) rfl (fun hc => ?_) (fun hc => ?_)
    · have h := h.1 hc
      refine x_iconst (tk K_X10_luck 15 rfl) ic_m1 ?_
      exact x_ireturn (tk K_X10_luck 16 rfl) rfl rfl h
    · have h := h.2 hc
      refine x_iload (tk K_X10_luck 10 rfl) rfl ?_
      refine x_if_lt (t := 31) (tk K_X10_luck 11 rfl) rfl (fun hc => ?_) (fun hc => ?_)
      · have h := h.1 hc
        refine x_iconst (tk K_X10_luck 15 rfl) ic_m1 ?_
        exact x_ireturn (tk K_X10_luck 16 rfl) rfl rfl h
      · have h := h.2 hc
        refine x_iload (tk K_X10_luck 12 rfl) rfl ?_
        refine x_iconst (tk K_X10_luck 13 rfl) ic_1 ?_
        refine x_icmp_le (t := 33) (tk K_X10_luck 14 rfl) rfl (fun hc => ?_) (fun hc => ?_)
        · have h := h.1 hc
          refine x_aload (tk K_X10_luck 17 rfl) rfl ?_
          refine x_aload_n (tk K_X10_luck 18 rfl) rfl rfl ?_
          refine x_getRc (tk K_X10_luck 19 rfl) f_X10_108 rfl (TpS.o hT1) (TpS.r16 hT1) ?_
          refine x_iload_n (tk K_X10_luck 20 rfl) rfl rfl ?_
          have hS_2 := h.1
          have h := h.2
          refine x_callV0 (As := [vR _, vI _]) (S := []) (tk K_X10_luck 21 rfl) mk_X10_198 mo_X3_wins (LaS.o hS_2) rfl rfl (Nat.le_of_ble_eq_true rfl) hd h (fun r M3 hq => ?_)
          obtain ⟨x3, rfl, hE, h⟩ := hq
          have hT2 := TpS.ext hT1 hE
          have hT3 := LaS.ext hS_2 hE
          have hT4 := hE.1 _ _ _ (TpS.k16 hT1)
          refine x_istore (L' := [some (vR _), some (vI _), some (vI _), some (vI _), some (vI _), some (vR _), some (vI _), none]) (tk K_X10_luck 22 rfl) rfl (Nat.le_of_ble_eq_true rfl) rfl ?_
          refine x_aload (tk K_X10_luck 23 rfl) rfl ?_
          refine x_aload_n (tk K_X10_luck 24 rfl) rfl rfl ?_
          refine x_getRc (tk K_X10_luck 25 rfl) f_X10_75 rfl (TpS.o hT2) (TpS.r11 hT2) ?_
          obtain ⟨kb1, nb1, hk1, hn1, h⟩ := h
          refine x_callV (As := [vR _]) (S := []) (tk K_X10_luck 26 rfl) mk_X10_202 mo_X3_rollOfCuts (LaS.o hT3) rfl rfl (Nat.le_of_ble_eq_true rfl) hd hk1 hn1 h (fun r M4 hq => ?_)
          obtain ⟨x4, rfl, hE, h⟩ := hq
          have hT5 := TpS.ext hT2 hE
          have hT6 := LaS.ext hT3 hE
          have hT7 := CuS.ext (TpS.k11 hT2) hE
          have hT8 := hE.1 _ _ _ hT4
          refine x_astore (L' := [some (vR _), some (vI _), some (vI _), some (vI _), some (vI _), some (vR _), some (vI _), some (vR _)]) (tk K_X10_luck 27 rfl) rfl (Nat.le_of_ble_eq_true rfl) rfl ?_
          refine x_iload (tk K_X10_luck 28 rfl) rfl ?_
          refine x_if_ne (t := 75) (tk K_X10_luck 29 rfl) rfl (fun hc => ?_) (fun hc => ?_)
          · have h := h.1 hc
            refine x_aload (tk K_X10_luck 38 rfl) rfl ?_
            refine x_iload_n (tk K_X10_luck 39 rfl) rfl rfl ?_
            refine x_iconst (tk K_X10_luck 40 rfl) ic_0 ?_
            refine x_iload (tk K_X10_luck 41 rfl) rfl ?_
            refine x_iconst (tk K_X10_luck 42 rfl) ic_1 ?_
            refine x_isub (tk K_X10_luck 43 rfl) ?_
            have hS_24 := h.1
            have h := h.2
            refine x_callV0 (As := [vI _, vI _, vI _]) (S := []) (tk K_X10_luck 44 rfl) mk_X10_224 mo_X8_howMany (RoS.o hS_24) rfl rfl (Nat.le_of_ble_eq_true rfl) hd h (fun r M5 hq => ?_)
            obtain ⟨x5, rfl, hE, h⟩ := hq
            have hT9 := TpS.ext hT5 hE
            have hT10 := LaS.ext hT6 hE
            have hT11 := CuS.ext hT7 hE
            have hT12 := RoS.ext hS_24 hE
            have hT13 := hE.1 _ _ _ hT8
            exact x_ireturn (tk K_X10_luck 45 rfl) rfl rfl h
          · have h := h.2 hc
            refine x_aload (tk K_X10_luck 30 rfl) rfl ?_
            refine x_iload_n (tk K_X10_luck 31 rfl) rfl rfl ?_
            refine x_iload (tk K_X10_luck 32 rfl) rfl ?_
            refine x_iconst (tk K_X10_luck 33 rfl) ic_1 ?_
            refine x_iadd (tk K_X10_luck 34 rfl) ?_
            refine x_iconst (tk K_X10_luck 35 rfl) ic_4 ?_
            have hS_44 := h.1
            have h := h.2
            refine x_callV0 (As := [vI _, vI _, vI _]) (S := []) (tk K_X10_luck 36 rfl) mk_X10_224 mo_X8_howMany (RoS.o hS_44) rfl rfl (Nat.le_of_ble_eq_true rfl) hd h (fun r M6 hq => ?_)
            obtain ⟨x6, rfl, hE, h⟩ := hq
            have hT14 := TpS.ext hT5 hE
            have hT15 := LaS.ext hT6 hE
            have hT16 := CuS.ext hT7 hE
            have hT17 := RoS.ext hS_44 hE
            have hT18 := hE.1 _ _ _ hT8
            refine x_goto (t := 86) (tk K_X10_luck 37 rfl) rfl ?_
            exact x_ireturn (tk K_X10_luck 45 rfl) rfl rfl h
        · have h := h.2 hc
          refine x_iconst (tk K_X10_luck 15 rfl) ic_m1 ?_
          exact x_ireturn (tk K_X10_luck 16 rfl) rfl rfl h

theorem e_X10_luck {X : Cx} {d kc ns : Nat} {M : Mem} {Q : Option AV → Mem → Prop} {a1 : Int32} {a2 : Int32} {a3 : Int32} {a4 : Int32} (h : WA X d kc ns m_X10_luck 0 [some (vR 1), some (vI a1), some (vI a2), some (vI a3), some (vI a4), none, none, none] [] M Q) : Cl X d kc ns m_X10_luck [vR 1, vI a1, vI a2, vI a3, vI a4] M Q := Cl.intro (k := 3) (by decide) rfl rfl h

-- TwoPencils.far(IIII)I
theorem b_X10_far_0 {X : Cx} {d kc ns : Nat} {M : Mem} {Q : Option AV → Mem → Prop} {l1 : Int32} {l2 : Int32} {l3 : Int32} {l4 : Int32} (hS : TpS M) (hd : 1 ≤ d)
    (h : Cl X (d - 1) 0 0 m_X10_landWithLawful [vR 1, vI l1, vI l2] M (fun r M1 => ∃ x1 : Nat, r = some (vR x1) ∧ Ext M M1 ∧ ((x1 = 0 → Q (some (vI (-1))) M1) ∧ (¬ x1 = 0 → Cl X (d - 1) 0 0 m_X10_isParty [vI l3] M1 (fun r M2 => ∃ x2 : Int32, r = some (vI x2) ∧ Ext M1 M2 ∧ ((x2 = nI 0 → Q (some (vI (-1))) M2) ∧ (¬ x2 = nI 0 → ((l4 < nI 0 → Q (some (vI (-1))) M2) ∧ (¬ l4 < nI 0 → ((l4 ≤ (nI 1) → LaS M2 x1 ∧ Cl X (d - 1) 0 0 m_X3_wins [vR x1, vR 73, vI l3] M2 (fun r M3 => ∃ x3 : Int32, r = some (vI x3) ∧ Ext M2 M3 ∧ Cl X (d - 1) 0 0 m_X3_farUpper [vR x1, vI x3, vI l3] M3 (fun r M4 => ∃ x4 : Int32, r = some (vI x4) ∧ Ext M3 M4 ∧ Cl X (d - 1) 0 0 m_X3_farLower [vR x1] M4 (fun r M5 => ∃ x5 : Int32, r = some (vI x5) ∧ Ext M4 M5 ∧ Cl X (d - 1) 0 0 m_X10_commonPart [vI x4, vI x5] M5 (fun r M6 => ∃ x6 : Int32, r = some (vI x6) ∧ Ext M5 M6 ∧ (((nI 1) ≤ x6 → ((¬ l4 = nI 0 → ¬ x6 = nI 0 ∧ Q (some (vI (x5 / x6))) M6) ∧ (l4 = nI 0 → ¬ x6 = nI 0 ∧ Q (some (vI (x4 / x6))) M6))) ∧ (¬ (nI 1) ≤ x6 → Q (some (vI (-1))) M6))))))) ∧ (¬ l4 ≤ (nI 1) → Q (some (vI (-1))) M2))))))))))) :
    WA X d kc ns m_X10_far 0 [some (vR 1), some (vI l1), some (vI l2), some (vI l3), some (vI l4), none, none, none, none] [] M Q := by
  refine x_aload_n (tk K_X10_far 0 rfl) rfl rfl ?_
  refine x_iload_n (tk K_X10_far 1 rfl) rfl rfl ?_
  refine x_iload_n (tk K_X10_far 2 rfl) rfl rfl ?_
  refine x_callV0 (As := [vI _, vI _]) (S := []) (tk K_X10_far 3 rfl) mk_X10_191 mo_X10_landWithLawful (TpS.o hS) rfl rfl (Nat.le_of_ble_eq_true rfl) hd h (fun r M1 hq => ?_)
  obtain ⟨x1, rfl, hE, h⟩ := hq
  have hT0 := TpS.ext hS hE
  refine x_astore (L' := [some (vR _), some (vI _), some (vI _), some (vI _), some (vI _), some (vR _), none, none, none]) (tk K_X10_far 4 rfl) rfl (Nat.le_of_ble_eq_true rfl) rfl ?_
  refine x_aload (tk K_X10_far 5 rfl) rfl ?_
  refine x_ifnull (t := 31) (tk K_X10_far 6 rfl) rfl (fun hc => ?_) (fun hc => ?_)
  · have h := h.1 hc
    refine x_iconst (tk K_X10_far 15 rfl) ic_m1 ?_
    exact x_ireturn (tk K_X10_far 16 rfl) rfl rfl h
  · have h := h.2 hc
    refine x_iload_n (tk K_X10_far 7 rfl) rfl rfl ?_
    refine x_callS0 (As := [vI _]) (S := []) (tk K_X10_far 8 rfl) mk_X10_171 mo_X10_isParty rfl rfl (Nat.le_of_ble_eq_true rfl) hd h (fun r M2 hq => ?_)
    obtain ⟨x2, rfl, hE, h⟩ := hq
    have hT1 := TpS.ext hT0 hE
    refine x_if_eq (t := 31) (tk K_X10_far 9 rfl) rfl (fun hc => ?_) (fun hc => ?_)
    · have h := h.1 hc
      refine x_iconst (tk K_X10_far 15 rfl) ic_m1 ?_
      exact x_ireturn (tk K_X10_far 16 rfl) rfl rfl h
    · have h := h.2 hc
      refine x_iload (tk K_X10_far 10 rfl) rfl ?_
      refine x_if_lt (t := 31) (tk K_X10_far 11 rfl) rfl (fun hc => ?_) (fun hc => ?_)
      · have h := h.1 hc
        refine x_iconst (tk K_X10_far 15 rfl) ic_m1 ?_
        exact x_ireturn (tk K_X10_far 16 rfl) rfl rfl h
      · have h := h.2 hc
        refine x_iload (tk K_X10_far 12 rfl) rfl ?_
        refine x_iconst (tk K_X10_far 13 rfl) ic_1 ?_
        refine x_icmp_le (t := 33) (tk K_X10_far 14 rfl) rfl (fun hc => ?_) (fun hc => ?_)
        · have h := h.1 hc
          refine x_aload (tk K_X10_far 17 rfl) rfl ?_
          refine x_aload (tk K_X10_far 18 rfl) rfl ?_
          refine x_aload_n (tk K_X10_far 19 rfl) rfl rfl ?_
          refine x_getRc (tk K_X10_far 20 rfl) f_X10_108 rfl (TpS.o hT1) (TpS.r16 hT1) ?_
          refine x_iload_n (tk K_X10_far 21 rfl) rfl rfl ?_
          have hS_2 := h.1
          have h := h.2
          refine x_callV0 (As := [vR _, vI _]) (S := [vR _]) (tk K_X10_far 22 rfl) mk_X10_198 mo_X3_wins (LaS.o hS_2) rfl rfl (Nat.le_of_ble_eq_true rfl) hd h (fun r M3 hq => ?_)
          obtain ⟨x3, rfl, hE, h⟩ := hq
          have hT2 := TpS.ext hT1 hE
          have hT3 := LaS.ext hS_2 hE
          have hT4 := hE.1 _ _ _ (TpS.k16 hT1)
          refine x_iload_n (tk K_X10_far 23 rfl) rfl rfl ?_
          refine x_callV0 (As := [vI _, vI _]) (S := []) (tk K_X10_far 24 rfl) mk_X10_228 mo_X3_farUpper (LaS.o hT3) rfl rfl (Nat.le_of_ble_eq_true rfl) hd h (fun r M4 hq => ?_)
          obtain ⟨x4, rfl, hE, h⟩ := hq
          have hT5 := TpS.ext hT2 hE
          have hT6 := LaS.ext hT3 hE
          have hT7 := hE.1 _ _ _ hT4
          refine x_istore (L' := [some (vR _), some (vI _), some (vI _), some (vI _), some (vI _), some (vR _), some (vI _), none, none]) (tk K_X10_far 25 rfl) rfl (Nat.le_of_ble_eq_true rfl) rfl ?_
          refine x_aload (tk K_X10_far 26 rfl) rfl ?_
          refine x_callV0 (As := []) (S := []) (tk K_X10_far 27 rfl) mk_X10_231 mo_X3_farLower (LaS.o hT6) rfl rfl (Nat.le_of_ble_eq_true rfl) hd h (fun r M5 hq => ?_)
          obtain ⟨x5, rfl, hE, h⟩ := hq
          have hT8 := TpS.ext hT5 hE
          have hT9 := LaS.ext hT6 hE
          have hT10 := hE.1 _ _ _ hT7
          refine x_istore (L' := [some (vR _), some (vI _), some (vI _), some (vI _), some (vI _), some (vR _), some (vI _), some (vI _), none]) (tk K_X10_far 28 rfl) rfl (Nat.le_of_ble_eq_true rfl) rfl ?_
          refine x_iload (tk K_X10_far 29 rfl) rfl ?_
          refine x_iload (tk K_X10_far 30 rfl) rfl ?_
          refine x_callS0 (As := [vI _, vI _]) (S := []) (tk K_X10_far 31 rfl) mk_X10_235 mo_X10_commonPart rfl rfl (Nat.le_of_ble_eq_true rfl) hd h (fun r M6 hq => ?_)
          obtain ⟨x6, rfl, hE, h⟩ := hq
          have hT11 := TpS.ext hT8 hE
          have hT12 := LaS.ext hT9 hE
          have hT13 := hE.1 _ _ _ hT10
          refine x_istore (L' := [some (vR _), some (vI _), some (vI _), some (vI _), some (vI _), some (vR _), some (vI _), some (vI _), some (vI _)]) (tk K_X10_far 32 rfl) rfl (Nat.le_of_ble_eq_true rfl) rfl ?_
          refine x_iload (tk K_X10_far 33 rfl) rfl ?_
          refine x_iconst (tk K_X10_far 34 rfl) ic_1 ?_
          refine x_icmp_ge (t := 75) (tk K_X10_far 35 rfl) rfl (fun hc => ?_) (fun hc => ?_)
          · have h := h.1 hc
            refine x_iload (tk K_X10_far 38 rfl) rfl ?_
            refine x_if_ne (t := 88) (tk K_X10_far 39 rfl) rfl (fun hc => ?_) (fun hc => ?_)
            · have h := h.1 hc
              refine x_iload (tk K_X10_far 44 rfl) rfl ?_
              refine x_iload (tk K_X10_far 45 rfl) rfl ?_
              refine x_idiv (tk K_X10_far 46 rfl) h.1 ?_
              have h := h.2
              exact x_ireturn (tk K_X10_far 47 rfl) rfl rfl h
            · have h := h.2 hc
              refine x_iload (tk K_X10_far 40 rfl) rfl ?_
              refine x_iload (tk K_X10_far 41 rfl) rfl ?_
              refine x_idiv (tk K_X10_far 42 rfl) h.1 ?_
              have h := h.2
              refine x_goto (t := 93) (tk K_X10_far 43 rfl) rfl ?_
              exact x_ireturn (tk K_X10_far 47 rfl) rfl rfl h
          · have h := h.2 hc
            refine x_iconst (tk K_X10_far 36 rfl) ic_m1 ?_
            exact x_ireturn (tk K_X10_far 37 rfl) rfl rfl h
        · have h := h.2 hc
          refine x_iconst (tk K_X10_far 15 rfl) ic_m1 ?_
          exact x_ireturn (tk K_X10_far 16 rfl) rfl rfl h

theorem e_X10_far {X : Cx} {d kc ns : Nat} {M : Mem} {Q : Option AV → Mem → Prop} {a1 : Int32} {a2 : Int32} {a3 : Int32} {a4 : Int32} (h : WA X d kc ns m_X10_far 0 [some (vR 1), some (vI a1), some (vI a2), some (vI a3), some (vI a4), none, none, none, none] [] M Q) : Cl X d kc ns m_X10_far [vR 1, vI a1, vI a2, vI a3, vI a4] M Q := Cl.intro (k := 4) (by decide) rfl rfl h

-- TwoPencils.apart(III)I
theorem b_X10_apart_0 {X : Cx} {d kc ns : Nat} {M : Mem} {Q : Option AV → Mem → Prop} {l1 : Int32} {l2 : Int32} {l3 : Int32} (hS : TpS M) (hd : 1 ≤ d)
    (h : Cl X (d - 1) 0 0 m_X10_readyLand [vR 1, vI l1] M (fun r M1 => ∃ x1 : Nat, r = some (vR x1) ∧ Ext M M1 ∧ ((x1 = 0 → Q (some (vI (-1))) M1) ∧ (¬ x1 = 0 → LaS M1 x1 ∧ Cl X (d - 1) 0 0 m_X3_isNumbered [vR x1, vI l2, vR 73] M1 (fun r M2 => ∃ x2 : Int32, r = some (vI x2) ∧ Ext M1 M2 ∧ ((x2 = nI 0 → Q (some (vI (-1))) M2) ∧ (¬ x2 = nI 0 → Cl X (d - 1) 0 0 m_X3_isNumbered [vR x1, vI l3, vR 74] M2 (fun r M3 => ∃ x3 : Int32, r = some (vI x3) ∧ Ext M2 M3 ∧ ((¬ x3 = nI 0 → Cl X (d - 1) 0 0 m_X3_distance [vR x1, vR 73, vR 74] M3 (fun r M4 => ∃ x4 : Int32, r = some (vI x4) ∧ Ext M3 M4 ∧ Q (some (vI x4)) M4)) ∧ (x3 = nI 0 → Q (some (vI (-1))) M3)))))))))) :
    WA X d kc ns m_X10_apart 0 [some (vR 1), some (vI l1), some (vI l2), some (vI l3), none] [] M Q := by
  refine x_aload_n (tk K_X10_apart 0 rfl) rfl rfl ?_
  refine x_iload_n (tk K_X10_apart 1 rfl) rfl rfl ?_
  refine x_callV0 (As := [vI _]) (S := []) (tk K_X10_apart 2 rfl) mk_X10_184 mo_X10_readyLand (TpS.o hS) rfl rfl (Nat.le_of_ble_eq_true rfl) hd h (fun r M1 hq => ?_)
  obtain ⟨x1, rfl, hE, h⟩ := hq
  have hT0 := TpS.ext hS hE
  refine x_astore (L' := [some (vR _), some (vI _), some (vI _), some (vI _), some (vR _)]) (tk K_X10_apart 3 rfl) rfl (Nat.le_of_ble_eq_true rfl) rfl ?_
  refine x_aload (tk K_X10_apart 4 rfl) rfl ?_
  refine x_ifnull (t := 38) (tk K_X10_apart 5 rfl) rfl (fun hc => ?_) (fun hc => ?_)
  · have h := h.1 hc
    refine x_iconst (tk K_X10_apart 18 rfl) ic_m1 ?_
    exact x_ireturn (tk K_X10_apart 19 rfl) rfl rfl h
  · have h := h.2 hc
    refine x_aload (tk K_X10_apart 6 rfl) rfl ?_
    refine x_iload_n (tk K_X10_apart 7 rfl) rfl rfl ?_
    refine x_aload_n (tk K_X10_apart 8 rfl) rfl rfl ?_
    refine x_getRc (tk K_X10_apart 9 rfl) f_X10_108 rfl (TpS.o hT0) (TpS.r16 hT0) ?_
    have hS_2 := h.1
    have h := h.2
    refine x_callV0 (As := [vI _, vR _]) (S := []) (tk K_X10_apart 10 rfl) mk_X10_238 mo_X3_isNumbered (LaS.o hS_2) rfl rfl (Nat.le_of_ble_eq_true rfl) hd h (fun r M2 hq => ?_)
    obtain ⟨x2, rfl, hE, h⟩ := hq
    have hT1 := TpS.ext hT0 hE
    have hT2 := LaS.ext hS_2 hE
    have hT3 := hE.1 _ _ _ (TpS.k16 hT0)
    refine x_if_eq (t := 38) (tk K_X10_apart 11 rfl) rfl (fun hc => ?_) (fun hc => ?_)
    · have h := h.1 hc
      refine x_iconst (tk K_X10_apart 18 rfl) ic_m1 ?_
      exact x_ireturn (tk K_X10_apart 19 rfl) rfl rfl h
    · have h := h.2 hc
      refine x_aload (tk K_X10_apart 12 rfl) rfl ?_
      refine x_iload_n (tk K_X10_apart 13 rfl) rfl rfl ?_
      refine x_aload_n (tk K_X10_apart 14 rfl) rfl rfl ?_
      refine x_getRc (tk K_X10_apart 15 rfl) f_X10_111 rfl (TpS.o hT1) (TpS.r17 hT1) ?_
      refine x_callV0 (As := [vI _, vR _]) (S := []) (tk K_X10_apart 16 rfl) mk_X10_238 mo_X3_isNumbered (LaS.o hT2) rfl rfl (Nat.le_of_ble_eq_true rfl) hd h (fun r M3 hq => ?_)
      obtain ⟨x3, rfl, hE, h⟩ := hq
      have hT4 := TpS.ext hT1 hE
      have hT5 := LaS.ext hT2 hE
      have hT6 := hE.1 _ _ _ hT3
      have hT7 := hE.1 _ _ _ (TpS.k17 hT1)
      refine x_if_ne (t := 40) (tk K_X10_apart 17 rfl) rfl (fun hc => ?_) (fun hc => ?_)
      · have h := h.1 hc
        refine x_aload (tk K_X10_apart 20 rfl) rfl ?_
        refine x_aload_n (tk K_X10_apart 21 rfl) rfl rfl ?_
        refine x_getRc (tk K_X10_apart 22 rfl) f_X10_108 rfl (TpS.o hT4) (TpS.r16 hT4) ?_
        refine x_aload_n (tk K_X10_apart 23 rfl) rfl rfl ?_
        refine x_getRc (tk K_X10_apart 24 rfl) f_X10_111 rfl (TpS.o hT4) (TpS.r17 hT4) ?_
        refine x_callV0 (As := [vR _, vR _]) (S := []) (tk K_X10_apart 25 rfl) mk_X10_242 mo_X3_distance (LaS.o hT5) rfl rfl (Nat.le_of_ble_eq_true rfl) hd h (fun r M4 hq => ?_)
        obtain ⟨x4, rfl, hE, h⟩ := hq
        have hT8 := TpS.ext hT4 hE
        have hT9 := LaS.ext hT5 hE
        have hT10 := hE.1 _ _ _ (TpS.k16 hT4)
        have hT11 := hE.1 _ _ _ (TpS.k17 hT4)
        exact x_ireturn (tk K_X10_apart 26 rfl) rfl rfl h
      · have h := h.2 hc
        refine x_iconst (tk K_X10_apart 18 rfl) ic_m1 ?_
        exact x_ireturn (tk K_X10_apart 19 rfl) rfl rfl h

theorem e_X10_apart {X : Cx} {d kc ns : Nat} {M : Mem} {Q : Option AV → Mem → Prop} {a1 : Int32} {a2 : Int32} {a3 : Int32} (h : WA X d kc ns m_X10_apart 0 [some (vR 1), some (vI a1), some (vI a2), some (vI a3), none] [] M Q) : Cl X d kc ns m_X10_apart [vR 1, vI a1, vI a2, vI a3] M Q := Cl.intro (k := 1) (by decide) rfl rfl h

-- TwoPencils.settled(II)I
theorem b_X10_settled_0 {X : Cx} {d kc ns : Nat} {M : Mem} {Q : Option AV → Mem → Prop} {l1 : Int32} {l2 : Int32} (hS : TpS M) (hd : 1 ≤ d)
    (h : Cl X (d - 1) 0 0 m_X10_landWithLawful [vR 1, vI l1, vI l2] M (fun r M1 => ∃ x1 : Nat, r = some (vR x1) ∧ Ext M M1 ∧ ((¬ x1 = 0 → LaS M1 x1 ∧ Cl X (d - 1) 0 0 m_X3_isSettled [vR x1, vR 73] M1 (fun r M2 => ∃ x2 : Int32, r = some (vI x2) ∧ Ext M1 M2 ∧ ((x2 = nI 0 → Q (some (vI (nI 0))) M2) ∧ (¬ x2 = nI 0 → Q (some (vI (nI 1))) M2)))) ∧ (x1 = 0 → Q (some (vI (-1))) M1)))) :
    WA X d kc ns m_X10_settled 0 [some (vR 1), some (vI l1), some (vI l2), none] [] M Q := by
  refine x_aload_n (tk K_X10_settled 0 rfl) rfl rfl ?_
  refine x_iload_n (tk K_X10_settled 1 rfl) rfl rfl ?_
  refine x_iload_n (tk K_X10_settled 2 rfl) rfl rfl ?_
  refine x_callV0 (As := [vI _, vI _]) (S := []) (tk K_X10_settled 3 rfl) mk_X10_191 mo_X10_landWithLawful (TpS.o hS) rfl rfl (Nat.le_of_ble_eq_true rfl) hd h (fun r M1 hq => ?_)
  obtain ⟨x1, rfl, hE, h⟩ := hq
  have hT0 := TpS.ext hS hE
  refine x_astore_n (L' := [some (vR _), some (vI _), some (vI _), some (vR _)]) (tk K_X10_settled 4 rfl) rfl rfl (Nat.le_of_ble_eq_true rfl) rfl ?_
  refine x_aload_n (tk K_X10_settled 5 rfl) rfl rfl ?_
  refine x_ifnonnull (t := 13) (tk K_X10_settled 6 rfl) rfl (fun hc => ?_) (fun hc => ?_)
  · have h := h.1 hc
    refine x_aload_n (tk K_X10_settled 9 rfl) rfl rfl ?_
    refine x_aload_n (tk K_X10_settled 10 rfl) rfl rfl ?_
    refine x_getRc (tk K_X10_settled 11 rfl) f_X10_108 rfl (TpS.o hT0) (TpS.r16 hT0) ?_
    have hS_2 := h.1
    have h := h.2
    refine x_callV0 (As := [vR _]) (S := []) (tk K_X10_settled 12 rfl) mk_X10_246 mo_X3_isSettled (LaS.o hS_2) rfl rfl (Nat.le_of_ble_eq_true rfl) hd h (fun r M2 hq => ?_)
    obtain ⟨x2, rfl, hE, h⟩ := hq
    have hT1 := TpS.ext hT0 hE
    have hT2 := LaS.ext hS_2 hE
    have hT3 := hE.1 _ _ _ (TpS.k16 hT0)
    refine x_if_eq (t := 28) (tk K_X10_settled 13 rfl) rfl (fun hc => ?_) (fun hc => ?_)
    · have h := h.1 hc
      refine x_iconst (tk K_X10_settled 16 rfl) ic_0 ?_
      exact x_ireturn (tk K_X10_settled 17 rfl) rfl rfl h
    · have h := h.2 hc
      refine x_iconst (tk K_X10_settled 14 rfl) ic_1 ?_
      refine x_goto (t := 29) (tk K_X10_settled 15 rfl) rfl ?_
      exact x_ireturn (tk K_X10_settled 17 rfl) rfl rfl h
  · have h := h.2 hc
    refine x_iconst (tk K_X10_settled 7 rfl) ic_m1 ?_
    exact x_ireturn (tk K_X10_settled 8 rfl) rfl rfl h

theorem e_X10_settled {X : Cx} {d kc ns : Nat} {M : Mem} {Q : Option AV → Mem → Prop} {a1 : Int32} {a2 : Int32} (h : WA X d kc ns m_X10_settled 0 [some (vR 1), some (vI a1), some (vI a2), none] [] M Q) : Cl X d kc ns m_X10_settled [vR 1, vI a1, vI a2] M Q := Cl.intro (k := 1) (by decide) rfl rfl h

-- TwoPencils.near(II)I
theorem b_X10_near_0 {X : Cx} {d kc ns : Nat} {M : Mem} {Q : Option AV → Mem → Prop} {l1 : Int32} {l2 : Int32} (hS : TpS M) (hd : 1 ≤ d)
    (h : Cl X (d - 1) 0 0 m_X10_readyLand [vR 1, vI l1] M (fun r M1 => ∃ x1 : Nat, r = some (vR x1) ∧ Ext M M1 ∧ ((¬ x1 = 0 → LaS M1 x1 ∧ Cl X (d - 1) 0 0 m_X3_judged [vR x1, vI l2, vR 73] M1 (fun r M2 => ∃ x2 : Int32, r = some (vI x2) ∧ Ext M1 M2 ∧ ((x2 = (-1) → Q (some (vI (-1))) M2) ∧ (¬ x2 = (-1) → ((¬ x2 = (nI 1) → ((¬ x2 = nI 0 → WA X d kc ns m_X10_near 55 [some (vR 1), none, none, some (vR x1), none] [] M2 Q) ∧ (x2 = nI 0 → Cl X (d - 1) 0 0 m_X3_isSettled [vR x1, vR 73] M2 (fun r M3 => ∃ x3 : Int32, r = some (vI x3) ∧ Ext M2 M3 ∧ ((x3 = nI 0 → WA X d kc ns m_X10_near 55 [some (vR 1), none, none, some (vR x1), none] [] M3 Q) ∧ (¬ x3 = nI 0 → Q (some (vI l2)) M3)))))) ∧ (x2 = (nI 1) → Q (some (vI (-1))) M2)))))) ∧ (x1 = 0 → Q (some (vI (-1))) M1)))) :
    WA X d kc ns m_X10_near 0 [some (vR 1), some (vI l1), some (vI l2), none, none] [] M Q := by
  refine x_aload_n (tk K_X10_near 0 rfl) rfl rfl ?_
  refine x_iload_n (tk K_X10_near 1 rfl) rfl rfl ?_
  refine x_callV0 (As := [vI _]) (S := []) (tk K_X10_near 2 rfl) mk_X10_184 mo_X10_readyLand (TpS.o hS) rfl rfl (Nat.le_of_ble_eq_true rfl) hd h (fun r M1 hq => ?_)
  obtain ⟨x1, rfl, hE, h⟩ := hq
  have hT0 := TpS.ext hS hE
  refine x_astore_n (L' := [some (vR _), some (vI _), some (vI _), some (vR _), none]) (tk K_X10_near 3 rfl) rfl rfl (Nat.le_of_ble_eq_true rfl) rfl ?_
  refine x_aload_n (tk K_X10_near 4 rfl) rfl rfl ?_
  refine x_ifnonnull (t := 12) (tk K_X10_near 5 rfl) rfl (fun hc => ?_) (fun hc => ?_)
  · have h := h.1 hc
    refine x_aload_n (tk K_X10_near 8 rfl) rfl rfl ?_
    refine x_iload_n (tk K_X10_near 9 rfl) rfl rfl ?_
    refine x_aload_n (tk K_X10_near 10 rfl) rfl rfl ?_
    refine x_getRc (tk K_X10_near 11 rfl) f_X10_108 rfl (TpS.o hT0) (TpS.r16 hT0) ?_
    have hS_2 := h.1
    have h := h.2
    refine x_callV0 (As := [vI _, vR _]) (S := []) (tk K_X10_near 12 rfl) mk_X10_187 mo_X3_judged (LaS.o hS_2) rfl rfl (Nat.le_of_ble_eq_true rfl) hd h (fun r M2 hq => ?_)
    obtain ⟨x2, rfl, hE, h⟩ := hq
    have hT1 := TpS.ext hT0 hE
    have hT2 := LaS.ext hS_2 hE
    have hT3 := hE.1 _ _ _ (TpS.k16 hT0)
    refine x_istore (L' := [some (vR _), some (vI _), some (vI _), some (vR _), some (vI _)]) (tk K_X10_near 13 rfl) rfl (Nat.le_of_ble_eq_true rfl) rfl ?_
    refine x_iload (tk K_X10_near 14 rfl) rfl ?_
    refine x_iconst (tk K_X10_near 15 rfl) ic_m1 ?_
    refine x_icmp_eq (t := 35) (tk K_X10_near 16 rfl) rfl (fun hc => ?_) (fun hc => ?_)
    · have h := h.1 hc
      refine x_iconst (tk K_X10_near 20 rfl) ic_m1 ?_
      exact x_ireturn (tk K_X10_near 21 rfl) rfl rfl h
    · have h := h.2 hc
      refine x_iload (tk K_X10_near 17 rfl) rfl ?_
      refine x_iconst (tk K_X10_near 18 rfl) ic_1 ?_
      refine x_icmp_ne (t := 37) (tk K_X10_near 19 rfl) rfl (fun hc => ?_) (fun hc => ?_)
      · have h := h.1 hc
        refine x_iload (tk K_X10_near 22 rfl) rfl ?_
        refine x_if_ne (t := 55) (tk K_X10_near 23 rfl) rfl (fun hc => ?_) (fun hc => ?_)
        · have h := h.1 hc
          refine x_msk [true, false, false, true, false] ?_
          exact h
        · have h := h.2 hc
          refine x_aload_n (tk K_X10_near 24 rfl) rfl rfl ?_
          refine x_aload_n (tk K_X10_near 25 rfl) rfl rfl ?_
          refine x_getRc (tk K_X10_near 26 rfl) f_X10_108 rfl (TpS.o hT1) (TpS.r16 hT1) ?_
          refine x_callV0 (As := [vR _]) (S := []) (tk K_X10_near 27 rfl) mk_X10_246 mo_X3_isSettled (LaS.o hT2) rfl rfl (Nat.le_of_ble_eq_true rfl) hd h (fun r M3 hq => ?_)
          obtain ⟨x3, rfl, hE, h⟩ := hq
          have hT4 := TpS.ext hT1 hE
          have hT5 := LaS.ext hT2 hE
          have hT6 := hE.1 _ _ _ (TpS.k16 hT1)
          refine x_if_eq (t := 55) (tk K_X10_near 28 rfl) rfl (fun hc => ?_) (fun hc => ?_)
          · have h := h.1 hc
            refine x_msk [true, false, false, true, false] ?_
            exact h
          · have h := h.2 hc
            refine x_iload_n (tk K_X10_near 29 rfl) rfl rfl ?_
            exact x_ireturn (tk K_X10_near 30 rfl) rfl rfl h
      · have h := h.2 hc
        refine x_iconst (tk K_X10_near 20 rfl) ic_m1 ?_
        exact x_ireturn (tk K_X10_near 21 rfl) rfl rfl h
  · have h := h.2 hc
    refine x_iconst (tk K_X10_near 6 rfl) ic_m1 ?_
    exact x_ireturn (tk K_X10_near 7 rfl) rfl rfl h

theorem b_X10_near_55 {X : Cx} {d kc ns : Nat} {M : Mem} {Q : Option AV → Mem → Prop} {l3 : Nat} (hS : TpS M) (hd : 1 ≤ d)
    (h : LaS M l3 ∧ ∃ kb1 nb1 : Nat, kb1 ≤ kc ∧ nb1 ≤ ns ∧ Cl X (d - 1) kb1 nb1 m_X3_rollOfCuts [vR l3, vR 29] M (fun r M1 => ∃ x1 : Nat, r = some (vR x1) ∧ Ext M M1 ∧ Cl X (d - 1) 0 0 m_X3_nearestSettled [vR l3, vR x1, vR 73, vR 74] M1 (fun r M2 => ∃ x2 : Int32, r = some (vI x2) ∧ Ext M1 M2 ∧ Q (some (vI x2)) M2))) :
    WA X d kc ns m_X10_near 55 [some (vR 1), none, none, some (vR l3), none] [] M Q := by
  refine x_aload_n (tk K_X10_near 31 rfl) rfl rfl ?_
  refine x_aload_n (tk K_X10_near 32 rfl) rfl rfl ?_
  refine x_aload_n (tk K_X10_near 33 rfl) rfl rfl ?_
  refine x_getRc (tk K_X10_near 34 rfl) f_X10_75 rfl (TpS.o hS) (TpS.r11 hS) ?_
  have hS_3 := h.1
  have h := h.2
  obtain ⟨kb1, nb1, hk1, hn1, h⟩ := h
  refine x_callV (As := [vR _]) (S := [vR _]) (tk K_X10_near 35 rfl) mk_X10_202 mo_X3_rollOfCuts (LaS.o hS_3) rfl rfl (Nat.le_of_ble_eq_true rfl) hd hk1 hn1 h (fun r M1 hq => ?_)
  obtain ⟨x1, rfl, hE, h⟩ := hq
  have hT0 := TpS.ext hS hE
  have hT1 := CuS.ext (TpS.k11 hS) hE
  have hT2 := LaS.ext hS_3 hE
  refine x_aload_n (tk K_X10_near 36 rfl) rfl rfl ?_
  refine x_getRc (tk K_X10_near 37 rfl) f_X10_108 rfl (TpS.o hT0) (TpS.r16 hT0) ?_
  refine x_aload_n (tk K_X10_near 38 rfl) rfl rfl ?_
  refine x_getRc (tk K_X10_near 39 rfl) f_X10_111 rfl (TpS.o hT0) (TpS.r17 hT0) ?_
  refine x_callV0 (As := [vR _, vR _, vR _]) (S := []) (tk K_X10_near 40 rfl) mk_X10_250 mo_X3_nearestSettled (LaS.o hT2) rfl rfl (Nat.le_of_ble_eq_true rfl) hd h (fun r M2 hq => ?_)
  obtain ⟨x2, rfl, hE, h⟩ := hq
  have hT3 := TpS.ext hT0 hE
  have hT4 := CuS.ext hT1 hE
  have hT5 := LaS.ext hT2 hE
  have hT6 := hE.1 _ _ _ (TpS.k16 hT0)
  have hT7 := hE.1 _ _ _ (TpS.k17 hT0)
  exact x_ireturn (tk K_X10_near 41 rfl) rfl rfl h

theorem e_X10_near {X : Cx} {d kc ns : Nat} {M : Mem} {Q : Option AV → Mem → Prop} {a1 : Int32} {a2 : Int32} (h : WA X d kc ns m_X10_near 0 [some (vR 1), some (vI a1), some (vI a2), none, none] [] M Q) : Cl X d kc ns m_X10_near [vR 1, vI a1, vI a2] M Q := Cl.intro (k := 2) (by decide) rfl rfl h

-- TwoPencils.walk(IIJI)I
theorem b_X10_walk_0 {X : Cx} {d kc ns : Nat} {M : Mem} {Q : Option AV → Mem → Prop} {l1 : Int32} {l2 : Int32} {l3 : Int64} {l5 : Int32} (hS : TpS M) (hd : 1 ≤ d)
    (h : Cl X (d - 1) 0 0 m_X10_landWithLawful [vR 1, vI l1, vI l2] M (fun r M1 => ∃ x1 : Nat, r = some (vR x1) ∧ Ext M M1 ∧ ((x1 = 0 → Q (some (vI (-1))) M1) ∧ (¬ x1 = 0 → ((l5 < nI 0 → Q (some (vI (-1))) M1) ∧ (¬ l5 < nI 0 → ((l5 ≤ (nI 500) → LaS M1 x1 ∧ Cl X (d - 1) 0 0 m_X3_wander [vR x1, vR 73, vJ l3, vI l5] M1 (fun r M2 => r = none ∧ Ext M1 M2 ∧ Cl X (d - 1) 0 0 m_X3_numberOf [vR x1, vR 73, vI (mI M2 x1 1)] M2 (fun r M3 => ∃ x2 : Int32, r = some (vI x2) ∧ Ext M2 M3 ∧ Q (some (vI x2)) M3))) ∧ (¬ l5 ≤ (nI 500) → Q (some (vI (-1))) M1)))))))) :
    WA X d kc ns m_X10_walk 0 [some (vR 1), some (vI l1), some (vI l2), some (vJ l3), none, some (vI l5), none] [] M Q := by
  refine x_aload_n (tk K_X10_walk 0 rfl) rfl rfl ?_
  refine x_iload_n (tk K_X10_walk 1 rfl) rfl rfl ?_
  refine x_iload_n (tk K_X10_walk 2 rfl) rfl rfl ?_
  refine x_callV0 (As := [vI _, vI _]) (S := []) (tk K_X10_walk 3 rfl) mk_X10_191 mo_X10_landWithLawful (TpS.o hS) rfl rfl (Nat.le_of_ble_eq_true rfl) hd h (fun r M1 hq => ?_)
  obtain ⟨x1, rfl, hE, h⟩ := hq
  have hT0 := TpS.ext hS hE
  refine x_astore (L' := [some (vR _), some (vI _), some (vI _), some (vJ _), none, some (vI _), some (vR _)]) (tk K_X10_walk 4 rfl) rfl (Nat.le_of_ble_eq_true rfl) rfl ?_
  refine x_aload (tk K_X10_walk 5 rfl) rfl ?_
  refine x_ifnull (t := 26) (tk K_X10_walk 6 rfl) rfl (fun hc => ?_) (fun hc => ?_)
  · have h := h.1 hc
    refine x_iconst (tk K_X10_walk 12 rfl) ic_m1 ?_
    exact x_ireturn (tk K_X10_walk 13 rfl) rfl rfl h
  · have h := h.2 hc
    refine x_iload (tk K_X10_walk 7 rfl) rfl ?_
    refine x_if_lt (t := 26) (tk K_X10_walk 8 rfl) rfl (fun hc => ?_) (fun hc => ?_)
    · have h := h.1 hc
      refine x_iconst (tk K_X10_walk 12 rfl) ic_m1 ?_
      exact x_ireturn (tk K_X10_walk 13 rfl) rfl rfl h
    · have h := h.2 hc
      refine x_iload (tk K_X10_walk 9 rfl) rfl ?_
      refine x_sipush (tk K_X10_walk 10 rfl) sp_500 ?_
      refine x_icmp_le (t := 28) (tk K_X10_walk 11 rfl) rfl (fun hc => ?_) (fun hc => ?_)
      · have h := h.1 hc
        refine x_aload (tk K_X10_walk 14 rfl) rfl ?_
        refine x_aload_n (tk K_X10_walk 15 rfl) rfl rfl ?_
        refine x_getRc (tk K_X10_walk 16 rfl) f_X10_108 rfl (TpS.o hT0) (TpS.r16 hT0) ?_
        refine x_lload_n (tk K_X10_walk 17 rfl) rfl rfl ?_
        refine x_iload (tk K_X10_walk 18 rfl) rfl ?_
        have hS_2 := h.1
        have h := h.2
        refine x_callV0 (As := [vR _, vJ _, vI _]) (S := []) (tk K_X10_walk 19 rfl) mk_X10_254 mo_X3_wander (LaS.o hS_2) rfl rfl (Nat.le_of_ble_eq_true rfl) hd h (fun r M2 hq => ?_)
        obtain ⟨rfl, hE, h⟩ := hq
        have hT1 := TpS.ext hT0 hE
        have hT2 := LaS.ext hS_2 hE
        have hT3 := hE.1 _ _ _ (TpS.k16 hT0)
        refine x_aload (tk K_X10_walk 20 rfl) rfl ?_
        refine x_aload_n (tk K_X10_walk 21 rfl) rfl rfl ?_
        refine x_getRc (tk K_X10_walk 22 rfl) f_X10_108 rfl (TpS.o hT1) (TpS.r16 hT1) ?_
        refine x_aload (tk K_X10_walk 23 rfl) rfl ?_
        refine x_getI (tk K_X10_walk 24 rfl) f_X10_143 rfl (LaS.o hT2) ?_
        refine x_callV0 (As := [vR _, vI _]) (S := []) (tk K_X10_walk 25 rfl) mk_X10_258 mo_X3_numberOf (LaS.o hT2) rfl rfl (Nat.le_of_ble_eq_true rfl) hd h (fun r M3 hq => ?_)
        obtain ⟨x2, rfl, hE, h⟩ := hq
        have hT4 := TpS.ext hT1 hE
        have hT5 := LaS.ext hT2 hE
        have hT6 := hE.1 _ _ _ (TpS.k16 hT1)
        exact x_ireturn (tk K_X10_walk 26 rfl) rfl rfl h
      · have h := h.2 hc
        refine x_iconst (tk K_X10_walk 12 rfl) ic_m1 ?_
        exact x_ireturn (tk K_X10_walk 13 rfl) rfl rfl h

theorem e_X10_walk {X : Cx} {d kc ns : Nat} {M : Mem} {Q : Option AV → Mem → Prop} {a1 : Int32} {a2 : Int32} {a3 : Int64} {a4 : Int32} (h : WA X d kc ns m_X10_walk 0 [some (vR 1), some (vI a1), some (vI a2), some (vJ a3), none, some (vI a4), none] [] M Q) : Cl X d kc ns m_X10_walk [vR 1, vI a1, vI a2, vJ a3, vI a4] M Q := Cl.intro (k := 1) (by decide) rfl rfl h

-- TwoPencils.game(II)I
theorem b_X10_game_0 {X : Cx} {d kc ns : Nat} {M : Mem} {Q : Option AV → Mem → Prop} {l1 : Int32} {l2 : Int32} (hS : TpS M) (hd : 1 ≤ d)
    (h : Cl X (d - 1) 0 0 m_X10_readyLand [vR 1, vI l1] M (fun r M1 => ∃ x1 : Nat, r = some (vR x1) ∧ Ext M M1 ∧ Cl X (d - 1) 0 0 m_X10_protocolAt [vR 1, vI l2] M1 (fun r M2 => ∃ x2 : Nat, r = some (vR x2) ∧ Ext M1 M2 ∧ ((x1 = 0 → Q (some (vI (-1))) M2) ∧ (¬ x1 = 0 → ((x2 = 0 → Q (some (vI (-1))) M2) ∧ (¬ x2 = 0 → (((mI M2 1 8) < (nI 8) → 1 ≤ kc ∧ 16 ≤ ns ∧ ∀ M3 : Mem, M3 = nw M2 1 16 → ∃ kb1 nb1 : Nat, kb1 ≤ (kc - 1) ∧ nb1 ≤ (ns - 16) ∧ Cl X (d - 1) kb1 nb1 m_X1_init [vR (nx M2), vR 29, vR 35, vR x1, vR x2] M3 (fun r M4 => r = none ∧ GaS M4 (nx M2) ∧ Cl X (d - 1) 0 0 m_X1_start [vR (nx M2), vR x1, vR x2] M4 (fun r M5 => r = none ∧ Ext M4 M5 ∧ LaS M5 x1 ∧ ∀ M6 : Mem, M6 = sI M5 x1 15 (nI 1) → TpS M6 ∧ vp_in (mI M6 1 8) 8 ∧ ∀ M7 : Mem, M7 = sR M6 13 (ix (mI M6 1 8)) (nx M2) → ∀ M8 : Mem, M8 = sI M7 1 8 ((mI M7 1 8) + (nI 1)) → Q (some (vI ((mI M8 1 8) - (nI 1)))) M8))) ∧ (¬ (mI M2 1 8) < (nI 8) → Q (some (vI (-1))) M2))))))))) :
    WA X d kc ns m_X10_game 0 [some (vR 1), some (vI l1), some (vI l2), none, none, none] [] M Q := by
  refine x_aload_n (tk K_X10_game 0 rfl) rfl rfl ?_
  refine x_iload_n (tk K_X10_game 1 rfl) rfl rfl ?_
  refine x_callV0 (As := [vI _]) (S := []) (tk K_X10_game 2 rfl) mk_X10_184 mo_X10_readyLand (TpS.o hS) rfl rfl (Nat.le_of_ble_eq_true rfl) hd h (fun r M1 hq => ?_)
  obtain ⟨x1, rfl, hE, h⟩ := hq
  have hT0 := TpS.ext hS hE
  refine x_astore_n (L' := [some (vR _), some (vI _), some (vI _), some (vR _), none, none]) (tk K_X10_game 3 rfl) rfl rfl (Nat.le_of_ble_eq_true rfl) rfl ?_
  refine x_aload_n (tk K_X10_game 4 rfl) rfl rfl ?_
  refine x_iload_n (tk K_X10_game 5 rfl) rfl rfl ?_
  refine x_callV0 (As := [vI _]) (S := []) (tk K_X10_game 6 rfl) mk_X10_261 mo_X10_protocolAt (TpS.o hT0) rfl rfl (Nat.le_of_ble_eq_true rfl) hd h (fun r M2 hq => ?_)
  obtain ⟨x2, rfl, hE, h⟩ := hq
  have hT1 := TpS.ext hT0 hE
  refine x_astore (L' := [some (vR _), some (vI _), some (vI _), some (vR _), some (vR _), none]) (tk K_X10_game 7 rfl) rfl (Nat.le_of_ble_eq_true rfl) rfl ?_
  refine x_aload_n (tk K_X10_game 8 rfl) rfl rfl ?_
  refine x_ifnull (t := 31) (tk K_X10_game 9 rfl) rfl (fun hc => ?_) (fun hc => ?_)
  · have h := h.1 hc
    refine x_iconst (tk K_X10_game 16 rfl) ic_m1 ?_
    exact x_ireturn (tk K_X10_game 17 rfl) rfl rfl h
  · have h := h.2 hc
    refine x_aload (tk K_X10_game 10 rfl) rfl ?_
    refine x_ifnull (t := 31) (tk K_X10_game 11 rfl) rfl (fun hc => ?_) (fun hc => ?_)
    · have h := h.1 hc
      refine x_iconst (tk K_X10_game 16 rfl) ic_m1 ?_
      exact x_ireturn (tk K_X10_game 17 rfl) rfl rfl h
    · have h := h.2 hc
      refine x_aload_n (tk K_X10_game 12 rfl) rfl rfl ?_
      refine x_getI (tk K_X10_game 13 rfl) f_X10_55 rfl (TpS.o hT1) ?_
      refine x_bipush (tk K_X10_game 14 rfl) bp_8 ?_
      refine x_icmp_lt (t := 33) (tk K_X10_game 15 rfl) rfl (fun hc => ?_) (fun hc => ?_)
      · have h := h.1 hc
        have hk := h.1
        have hn := h.2.1
        have h := h.2.2
        have h := h _ rfl
        refine x_new (ci := 1) (N := 16) (tk K_X10_game 18 rfl) (by decide) rfl cl_X10_42 in_1 ii_1 hk hn ?_
        refine x_dup (tk K_X10_game 19 rfl) rfl ?_
        refine x_aload_n (tk K_X10_game 20 rfl) rfl rfl ?_
        refine x_getRc (tk K_X10_game 21 rfl) f_X10_75 rfl (TpS.o (TpS.ext hT1 ExtN)) (TpS.r11 (TpS.ext hT1 ExtN)) ?_
        refine x_aload_n (tk K_X10_game 22 rfl) rfl rfl ?_
        refine x_getRc (tk K_X10_game 23 rfl) f_X10_84 rfl (TpS.o (TpS.ext hT1 ExtN)) (TpS.r12 (TpS.ext hT1 ExtN)) ?_
        refine x_aload_n (tk K_X10_game 24 rfl) rfl rfl ?_
        refine x_aload (tk K_X10_game 25 rfl) rfl ?_
        obtain ⟨kb1, nb1, hk1, hn1, h⟩ := h
        refine x_callI (As := [vR _, vR _, vR _, vR _]) (S := [vR _]) (tk K_X10_game 26 rfl) mk_X10_97 mo_X1_init isK_nw rfl rfl (Nat.le_of_ble_eq_true rfl) hd hk1 hn1 h (fun r M4 hq => ?_)
        obtain ⟨rfl, h⟩ := hq
        refine x_astore (L' := [some (vR _), some (vI _), some (vI _), some (vR _), some (vR _), some (vR _)]) (tk K_X10_game 27 rfl) rfl (Nat.le_of_ble_eq_true rfl) rfl ?_
        refine x_aload (tk K_X10_game 28 rfl) rfl ?_
        refine x_aload_n (tk K_X10_game 29 rfl) rfl rfl ?_
        refine x_aload (tk K_X10_game 30 rfl) rfl ?_
        have hS_1 := h.1
        have h := h.2
        refine x_callV0 (As := [vR _, vR _]) (S := []) (tk K_X10_game 31 rfl) mk_X10_265 mo_X1_start (GaS.o hS_1) rfl rfl (Nat.le_of_ble_eq_true rfl) hd h (fun r M5 hq => ?_)
        obtain ⟨rfl, hE, h⟩ := hq
        have hT3 := GaS.ext hS_1 hE
        refine x_aload_n (tk K_X10_game 32 rfl) rfl rfl ?_
        refine x_iconst (tk K_X10_game 33 rfl) ic_1 ?_
        have hS_22 := h.1
        have h := h.2
        have h := h _ rfl
        refine x_putZ (tk K_X10_game 34 rfl) f_X10_167 rfl (Or.inl rfl) (LaS.o hS_22) (Or.inr rfl) ?_
        refine x_aload_n (tk K_X10_game 35 rfl) rfl rfl ?_
        have hS_43 := h.1
        have h := h.2
        refine x_getRc (tk K_X10_game 36 rfl) f_X10_44 rfl (TpS.o hS_43) (TpS.r5 hS_43) ?_
        refine x_aload_n (tk K_X10_game 37 rfl) rfl rfl ?_
        refine x_getI (tk K_X10_game 38 rfl) f_X10_55 rfl (TpS.o hS_43) ?_
        refine x_aload (tk K_X10_game 39 rfl) rfl ?_
        have hi := h.1
        have h := h.2
        have h := h _ rfl
        refine x_aast17 (tk K_X10_game 40 rfl) (TpS.k5 hS_43) (GaS.o hT3) hi ?_
        refine x_aload_n (tk K_X10_game 41 rfl) rfl rfl ?_
        refine x_dup (tk K_X10_game 42 rfl) rfl ?_
        refine x_getI (tk K_X10_game 43 rfl) f_X10_55 rfl (TpS.o (TpS.ext hS_43 (ExtRa (TpS.k5 hS_43) (by decide)))) ?_
        refine x_iconst (tk K_X10_game 44 rfl) ic_1 ?_
        refine x_iadd (tk K_X10_game 45 rfl) ?_
        have h := h _ rfl
        refine x_putI (tk K_X10_game 46 rfl) f_X10_55 rfl (Or.inl rfl) (TpS.o (TpS.ext hS_43 (ExtRa (TpS.k5 hS_43) (by decide)))) ?_
        refine x_aload_n (tk K_X10_game 47 rfl) rfl rfl ?_
        refine x_getI (tk K_X10_game 48 rfl) f_X10_55 rfl (TpS.o (TpS.ext hS_43 (ExtRa (TpS.k5 hS_43) (by decide)))) ?_
        refine x_iconst (tk K_X10_game 49 rfl) ic_1 ?_
        refine x_isub (tk K_X10_game 50 rfl) ?_
        exact x_ireturn (tk K_X10_game 51 rfl) rfl rfl h
      · have h := h.2 hc
        refine x_iconst (tk K_X10_game 16 rfl) ic_m1 ?_
        exact x_ireturn (tk K_X10_game 17 rfl) rfl rfl h

theorem e_X10_game {X : Cx} {d kc ns : Nat} {M : Mem} {Q : Option AV → Mem → Prop} {a1 : Int32} {a2 : Int32} (h : WA X d kc ns m_X10_game 0 [some (vR 1), some (vI a1), some (vI a2), none, none, none] [] M Q) : Cl X d kc ns m_X10_game [vR 1, vI a1, vI a2] M Q := Cl.intro (k := 3) (by decide) rfl rfl h

-- TwoPencils.phase(I)I
theorem b_X10_phase_0 {X : Cx} {d kc ns : Nat} {M : Mem} {Q : Option AV → Mem → Prop} {l1 : Int32} (hS : TpS M) (hd : 1 ≤ d)
    (h : Cl X (d - 1) 0 0 m_X10_gameAt [vR 1, vI l1] M (fun r M1 => ∃ x1 : Nat, r = some (vR x1) ∧ Ext M M1 ∧ ((¬ x1 = 0 → GaS M1 x1 ∧ Q (some (vI (mI M1 x1 10))) M1) ∧ (x1 = 0 → Q (some (vI (-1))) M1)))) :
    WA X d kc ns m_X10_phase 0 [some (vR 1), some (vI l1), none] [] M Q := by
  refine x_aload_n (tk K_X10_phase 0 rfl) rfl rfl ?_
  refine x_iload_n (tk K_X10_phase 1 rfl) rfl rfl ?_
  refine x_callV0 (As := [vI _]) (S := []) (tk K_X10_phase 2 rfl) mk_X10_269 mo_X10_gameAt (TpS.o hS) rfl rfl (Nat.le_of_ble_eq_true rfl) hd h (fun r M1 hq => ?_)
  obtain ⟨x1, rfl, hE, h⟩ := hq
  have hT0 := TpS.ext hS hE
  refine x_astore_n (L' := [some (vR _), some (vI _), some (vR _)]) (tk K_X10_phase 3 rfl) rfl rfl (Nat.le_of_ble_eq_true rfl) rfl ?_
  refine x_aload_n (tk K_X10_phase 4 rfl) rfl rfl ?_
  refine x_ifnonnull (t := 14) (tk K_X10_phase 5 rfl) rfl (fun hc => ?_) (fun hc => ?_)
  · have h := h.1 hc
    refine x_aload_n (tk K_X10_phase 8 rfl) rfl rfl ?_
    have hS_2 := h.1
    have h := h.2
    refine x_getI (tk K_X10_phase 9 rfl) f_X10_273 rfl (GaS.o hS_2) ?_
    exact x_ireturn (tk K_X10_phase 10 rfl) rfl rfl h
  · have h := h.2 hc
    refine x_iconst (tk K_X10_phase 6 rfl) ic_m1 ?_
    refine x_goto (t := 18) (tk K_X10_phase 7 rfl) rfl ?_
    exact x_ireturn (tk K_X10_phase 10 rfl) rfl rfl h

theorem e_X10_phase {X : Cx} {d kc ns : Nat} {M : Mem} {Q : Option AV → Mem → Prop} {a1 : Int32} (h : WA X d kc ns m_X10_phase 0 [some (vR 1), some (vI a1), none] [] M Q) : Cl X d kc ns m_X10_phase [vR 1, vI a1] M Q := Cl.intro (k := 1) (by decide) rfl rfl h

-- TwoPencils.turn(I)I
theorem b_X10_turn_0 {X : Cx} {d kc ns : Nat} {M : Mem} {Q : Option AV → Mem → Prop} {l1 : Int32} (hS : TpS M) (hd : 1 ≤ d)
    (h : Cl X (d - 1) 0 0 m_X10_gameAt [vR 1, vI l1] M (fun r M1 => ∃ x1 : Nat, r = some (vR x1) ∧ Ext M M1 ∧ ((¬ x1 = 0 → GaS M1 x1 ∧ Cl X (d - 1) 0 0 m_X1_mover [vR x1] M1 (fun r M2 => ∃ x2 : Int32, r = some (vI x2) ∧ Ext M1 M2 ∧ Q (some (vI x2)) M2)) ∧ (x1 = 0 → Q (some (vI (-1))) M1)))) :
    WA X d kc ns m_X10_turn 0 [some (vR 1), some (vI l1), none] [] M Q := by
  refine x_aload_n (tk K_X10_turn 0 rfl) rfl rfl ?_
  refine x_iload_n (tk K_X10_turn 1 rfl) rfl rfl ?_
  refine x_callV0 (As := [vI _]) (S := []) (tk K_X10_turn 2 rfl) mk_X10_269 mo_X10_gameAt (TpS.o hS) rfl rfl (Nat.le_of_ble_eq_true rfl) hd h (fun r M1 hq => ?_)
  obtain ⟨x1, rfl, hE, h⟩ := hq
  have hT0 := TpS.ext hS hE
  refine x_astore_n (L' := [some (vR _), some (vI _), some (vR _)]) (tk K_X10_turn 3 rfl) rfl rfl (Nat.le_of_ble_eq_true rfl) rfl ?_
  refine x_aload_n (tk K_X10_turn 4 rfl) rfl rfl ?_
  refine x_ifnonnull (t := 14) (tk K_X10_turn 5 rfl) rfl (fun hc => ?_) (fun hc => ?_)
  · have h := h.1 hc
    refine x_aload_n (tk K_X10_turn 8 rfl) rfl rfl ?_
    have hS_2 := h.1
    have h := h.2
    refine x_callV0 (As := []) (S := []) (tk K_X10_turn 9 rfl) mk_X10_276 mo_X1_mover (GaS.o hS_2) rfl rfl (Nat.le_of_ble_eq_true rfl) hd h (fun r M2 hq => ?_)
    obtain ⟨x2, rfl, hE, h⟩ := hq
    have hT1 := TpS.ext hT0 hE
    have hT2 := GaS.ext hS_2 hE
    exact x_ireturn (tk K_X10_turn 10 rfl) rfl rfl h
  · have h := h.2 hc
    refine x_iconst (tk K_X10_turn 6 rfl) ic_m1 ?_
    refine x_goto (t := 18) (tk K_X10_turn 7 rfl) rfl ?_
    exact x_ireturn (tk K_X10_turn 10 rfl) rfl rfl h

theorem e_X10_turn {X : Cx} {d kc ns : Nat} {M : Mem} {Q : Option AV → Mem → Prop} {a1 : Int32} (h : WA X d kc ns m_X10_turn 0 [some (vR 1), some (vI a1), none] [] M Q) : Cl X d kc ns m_X10_turn [vR 1, vI a1] M Q := Cl.intro (k := 1) (by decide) rfl rfl h

-- TwoPencils.move(II)Z
theorem b_X10_move_0 {X : Cx} {d kc ns : Nat} {M : Mem} {Q : Option AV → Mem → Prop} {l1 : Int32} {l2 : Int32} (hS : TpS M) (hd : 1 ≤ d)
    (h : Cl X (d - 1) 0 0 m_X10_gameAt [vR 1, vI l1] M (fun r M1 => ∃ x1 : Nat, r = some (vR x1) ∧ Ext M M1 ∧ ((x1 = 0 → Q (some (vI (nI 0))) M1) ∧ (¬ x1 = 0 → GaS M1 x1 ∧ Cl X (d - 1) 0 0 m_X1_permits [vR x1, vI l2] M1 (fun r M2 => ∃ x2 : Int32, r = some (vI x2) ∧ Ext M1 M2 ∧ ((¬ x2 = nI 0 → Cl X (d - 1) 0 0 m_X1_play [vR x1, vI l2] M2 (fun r M3 => r = none ∧ Ext M2 M3 ∧ Q (some (vI (nI 1))) M3)) ∧ (x2 = nI 0 → Q (some (vI (nI 0))) M2))))))) :
    WA X d kc ns m_X10_move 0 [some (vR 1), some (vI l1), some (vI l2), none] [] M Q := by
  refine x_aload_n (tk K_X10_move 0 rfl) rfl rfl ?_
  refine x_iload_n (tk K_X10_move 1 rfl) rfl rfl ?_
  refine x_callV0 (As := [vI _]) (S := []) (tk K_X10_move 2 rfl) mk_X10_269 mo_X10_gameAt (TpS.o hS) rfl rfl (Nat.le_of_ble_eq_true rfl) hd h (fun r M1 hq => ?_)
  obtain ⟨x1, rfl, hE, h⟩ := hq
  have hT0 := TpS.ext hS hE
  refine x_astore_n (L' := [some (vR _), some (vI _), some (vI _), some (vR _)]) (tk K_X10_move 3 rfl) rfl rfl (Nat.le_of_ble_eq_true rfl) rfl ?_
  refine x_aload_n (tk K_X10_move 4 rfl) rfl rfl ?_
  refine x_ifnull (t := 18) (tk K_X10_move 5 rfl) rfl (fun hc => ?_) (fun hc => ?_)
  · have h := h.1 hc
    refine x_iconst (tk K_X10_move 10 rfl) ic_0 ?_
    exact x_ireturn (tk K_X10_move 11 rfl) rfl (fitZ (Or.inl rfl)).1 h
  · have h := h.2 hc
    refine x_aload_n (tk K_X10_move 6 rfl) rfl rfl ?_
    refine x_iload_n (tk K_X10_move 7 rfl) rfl rfl ?_
    have hS_2 := h.1
    have h := h.2
    refine x_callV0 (As := [vI _]) (S := []) (tk K_X10_move 8 rfl) mk_X10_279 mo_X1_permits (GaS.o hS_2) rfl rfl (Nat.le_of_ble_eq_true rfl) hd h (fun r M2 hq => ?_)
    obtain ⟨x2, rfl, hE, h⟩ := hq
    have hT1 := TpS.ext hT0 hE
    have hT2 := GaS.ext hS_2 hE
    refine x_if_ne (t := 20) (tk K_X10_move 9 rfl) rfl (fun hc => ?_) (fun hc => ?_)
    · have h := h.1 hc
      refine x_aload_n (tk K_X10_move 12 rfl) rfl rfl ?_
      refine x_iload_n (tk K_X10_move 13 rfl) rfl rfl ?_
      refine x_callV0 (As := [vI _]) (S := []) (tk K_X10_move 14 rfl) mk_X10_282 mo_X1_play (GaS.o hT2) rfl rfl (Nat.le_of_ble_eq_true rfl) hd h (fun r M3 hq => ?_)
      obtain ⟨rfl, hE, h⟩ := hq
      have hT3 := TpS.ext hT1 hE
      have hT4 := GaS.ext hT2 hE
      refine x_iconst (tk K_X10_move 15 rfl) ic_1 ?_
      exact x_ireturn (tk K_X10_move 16 rfl) rfl (fitZ (Or.inr rfl)).1 h
    · have h := h.2 hc
      refine x_iconst (tk K_X10_move 10 rfl) ic_0 ?_
      exact x_ireturn (tk K_X10_move 11 rfl) rfl (fitZ (Or.inl rfl)).1 h

theorem e_X10_move {X : Cx} {d kc ns : Nat} {M : Mem} {Q : Option AV → Mem → Prop} {a1 : Int32} {a2 : Int32} (h : WA X d kc ns m_X10_move 0 [some (vR 1), some (vI a1), some (vI a2), none] [] M Q) : Cl X d kc ns m_X10_move [vR 1, vI a1, vI a2] M Q := Cl.intro (k := 1) (by decide) rfl rfl h

-- TwoPencils.undo(I)Z
theorem b_X10_undo_0 {X : Cx} {d kc ns : Nat} {M : Mem} {Q : Option AV → Mem → Prop} {l1 : Int32} (hS : TpS M) (hd : 1 ≤ d)
    (h : Cl X (d - 1) 0 0 m_X10_gameAt [vR 1, vI l1] M (fun r M1 => ∃ x1 : Nat, r = some (vR x1) ∧ Ext M M1 ∧ ((x1 = 0 → Q (some (vI (nI 0))) M1) ∧ (¬ x1 = 0 → GaS M1 x1 ∧ ((¬ (mI M1 x1 5) = nI 0 → Cl X (d - 1) 0 0 m_X1_takeBack [vR x1] M1 (fun r M2 => r = none ∧ Ext M1 M2 ∧ Q (some (vI (nI 1))) M2)) ∧ ((mI M1 x1 5) = nI 0 → Q (some (vI (nI 0))) M1)))))) :
    WA X d kc ns m_X10_undo 0 [some (vR 1), some (vI l1), none] [] M Q := by
  refine x_aload_n (tk K_X10_undo 0 rfl) rfl rfl ?_
  refine x_iload_n (tk K_X10_undo 1 rfl) rfl rfl ?_
  refine x_callV0 (As := [vI _]) (S := []) (tk K_X10_undo 2 rfl) mk_X10_269 mo_X10_gameAt (TpS.o hS) rfl rfl (Nat.le_of_ble_eq_true rfl) hd h (fun r M1 hq => ?_)
  obtain ⟨x1, rfl, hE, h⟩ := hq
  have hT0 := TpS.ext hS hE
  refine x_astore_n (L' := [some (vR _), some (vI _), some (vR _)]) (tk K_X10_undo 3 rfl) rfl rfl (Nat.le_of_ble_eq_true rfl) rfl ?_
  refine x_aload_n (tk K_X10_undo 4 rfl) rfl rfl ?_
  refine x_ifnull (t := 17) (tk K_X10_undo 5 rfl) rfl (fun hc => ?_) (fun hc => ?_)
  · have h := h.1 hc
    refine x_iconst (tk K_X10_undo 9 rfl) ic_0 ?_
    exact x_ireturn (tk K_X10_undo 10 rfl) rfl (fitZ (Or.inl rfl)).1 h
  · have h := h.2 hc
    refine x_aload_n (tk K_X10_undo 6 rfl) rfl rfl ?_
    have hS_2 := h.1
    have h := h.2
    refine x_getI (tk K_X10_undo 7 rfl) f_X10_285 rfl (GaS.o hS_2) ?_
    refine x_if_ne (t := 19) (tk K_X10_undo 8 rfl) rfl (fun hc => ?_) (fun hc => ?_)
    · have h := h.1 hc
      refine x_aload_n (tk K_X10_undo 11 rfl) rfl rfl ?_
      refine x_callV0 (As := []) (S := []) (tk K_X10_undo 12 rfl) mk_X10_288 mo_X1_takeBack (GaS.o hS_2) rfl rfl (Nat.le_of_ble_eq_true rfl) hd h (fun r M2 hq => ?_)
      obtain ⟨rfl, hE, h⟩ := hq
      have hT1 := TpS.ext hT0 hE
      have hT2 := GaS.ext hS_2 hE
      refine x_iconst (tk K_X10_undo 13 rfl) ic_1 ?_
      exact x_ireturn (tk K_X10_undo 14 rfl) rfl (fitZ (Or.inr rfl)).1 h
    · have h := h.2 hc
      refine x_iconst (tk K_X10_undo 9 rfl) ic_0 ?_
      exact x_ireturn (tk K_X10_undo 10 rfl) rfl (fitZ (Or.inl rfl)).1 h

theorem e_X10_undo {X : Cx} {d kc ns : Nat} {M : Mem} {Q : Option AV → Mem → Prop} {a1 : Int32} (h : WA X d kc ns m_X10_undo 0 [some (vR 1), some (vI a1), none] [] M Q) : Cl X d kc ns m_X10_undo [vR 1, vI a1] M Q := Cl.intro (k := 1) (by decide) rfl rfl h

-- TwoPencils.best(II)I
theorem b_X10_best_0 {X : Cx} {d kc ns : Nat} {M : Mem} {Q : Option AV → Mem → Prop} {l1 : Int32} {l2 : Int32} (hS : TpS M) (hd : 1 ≤ d)
    (h : Cl X (d - 1) 0 0 m_X10_gameAt [vR 1, vI l1] M (fun r M1 => ∃ x1 : Nat, r = some (vR x1) ∧ Ext M M1 ∧ ((x1 = 0 → Q (some (vI (-1))) M1) ∧ (¬ x1 = 0 → Cl X (d - 1) 0 0 m_X10_isGoal [vI l2] M1 (fun r M2 => ∃ x2 : Int32, r = some (vI x2) ∧ Ext M1 M2 ∧ ((x2 = nI 0 → Q (some (vI (-1))) M2) ∧ (¬ x2 = nI 0 → GaS M2 x1 ∧ Cl X (d - 1) 0 0 m_X1_isOver [vR x1] M2 (fun r M3 => ∃ x3 : Int32, r = some (vI x3) ∧ Ext M2 M3 ∧ ((x3 = nI 0 → Cl X (d - 1) 0 0 m_X5_turnTo [vR 38, vR (mR M3 x1 2), vR (mR M3 x1 3), vI (nI 0), vI l2] M3 (fun r M4 => r = none ∧ Ext M3 M4 ∧ Cl X (d - 1) 0 0 m_X5_weigh [vR 38, vR x1] M4 (fun r M5 => ∃ x4 : Int32, r = some (vI x4) ∧ Ext M4 M5 ∧ Q (some (vI (mI M5 38 9))) M5))) ∧ (¬ x3 = nI 0 → Q (some (vI (-1))) M3)))))))))) :
    WA X d kc ns m_X10_best 0 [some (vR 1), some (vI l1), some (vI l2), none] [] M Q := by
  refine x_aload_n (tk K_X10_best 0 rfl) rfl rfl ?_
  refine x_iload_n (tk K_X10_best 1 rfl) rfl rfl ?_
  refine x_callV0 (As := [vI _]) (S := []) (tk K_X10_best 2 rfl) mk_X10_269 mo_X10_gameAt (TpS.o hS) rfl rfl (Nat.le_of_ble_eq_true rfl) hd h (fun r M1 hq => ?_)
  obtain ⟨x1, rfl, hE, h⟩ := hq
  have hT0 := TpS.ext hS hE
  refine x_astore_n (L' := [some (vR _), some (vI _), some (vI _), some (vR _)]) (tk K_X10_best 3 rfl) rfl rfl (Nat.le_of_ble_eq_true rfl) rfl ?_
  refine x_aload_n (tk K_X10_best 4 rfl) rfl rfl ?_
  refine x_ifnull (t := 24) (tk K_X10_best 5 rfl) rfl (fun hc => ?_) (fun hc => ?_)
  · have h := h.1 hc
    refine x_iconst (tk K_X10_best 12 rfl) ic_m1 ?_
    exact x_ireturn (tk K_X10_best 13 rfl) rfl rfl h
  · have h := h.2 hc
    refine x_iload_n (tk K_X10_best 6 rfl) rfl rfl ?_
    refine x_callS0 (As := [vI _]) (S := []) (tk K_X10_best 7 rfl) mk_X10_291 mo_X10_isGoal rfl rfl (Nat.le_of_ble_eq_true rfl) hd h (fun r M2 hq => ?_)
    obtain ⟨x2, rfl, hE, h⟩ := hq
    have hT1 := TpS.ext hT0 hE
    refine x_if_eq (t := 24) (tk K_X10_best 8 rfl) rfl (fun hc => ?_) (fun hc => ?_)
    · have h := h.1 hc
      refine x_iconst (tk K_X10_best 12 rfl) ic_m1 ?_
      exact x_ireturn (tk K_X10_best 13 rfl) rfl rfl h
    · have h := h.2 hc
      refine x_aload_n (tk K_X10_best 9 rfl) rfl rfl ?_
      have hS_2 := h.1
      have h := h.2
      refine x_callV0 (As := []) (S := []) (tk K_X10_best 10 rfl) mk_X10_294 mo_X1_isOver (GaS.o hS_2) rfl rfl (Nat.le_of_ble_eq_true rfl) hd h (fun r M3 hq => ?_)
      obtain ⟨x3, rfl, hE, h⟩ := hq
      have hT2 := TpS.ext hT1 hE
      have hT3 := GaS.ext hS_2 hE
      refine x_if_eq (t := 26) (tk K_X10_best 11 rfl) rfl (fun hc => ?_) (fun hc => ?_)
      · have h := h.1 hc
        refine x_aload_n (tk K_X10_best 14 rfl) rfl rfl ?_
        refine x_getRc (tk K_X10_best 15 rfl) f_X10_93 rfl (TpS.o hT2) (TpS.r13 hT2) ?_
        refine x_aload_n (tk K_X10_best 16 rfl) rfl rfl ?_
        refine x_getR (tk K_X10_best 17 rfl) f_X10_298 rfl (GaS.o hT3) ?_
        refine x_aload_n (tk K_X10_best 18 rfl) rfl rfl ?_
        refine x_getR (tk K_X10_best 19 rfl) f_X10_301 rfl (GaS.o hT3) ?_
        refine x_iconst (tk K_X10_best 20 rfl) ic_0 ?_
        refine x_iload_n (tk K_X10_best 21 rfl) rfl rfl ?_
        refine x_callV0 (As := [vR _, vR _, vI _, vI _]) (S := []) (tk K_X10_best 22 rfl) mk_X10_304 mo_X5_turnTo (MiS.o (TpS.k13 hT2)) rfl rfl (Nat.le_of_ble_eq_true rfl) hd h (fun r M4 hq => ?_)
        obtain ⟨rfl, hE, h⟩ := hq
        have hT4 := TpS.ext hT2 hE
        have hT5 := GaS.ext hT3 hE
        have hT6 := MiS.ext (TpS.k13 hT2) hE
        refine x_aload_n (tk K_X10_best 23 rfl) rfl rfl ?_
        refine x_getRc (tk K_X10_best 24 rfl) f_X10_93 rfl (TpS.o hT4) (TpS.r13 hT4) ?_
        refine x_aload_n (tk K_X10_best 25 rfl) rfl rfl ?_
        refine x_callV0 (As := [vR _]) (S := []) (tk K_X10_best 26 rfl) mk_X10_308 mo_X5_weigh (MiS.o (TpS.k13 hT4)) rfl rfl (Nat.le_of_ble_eq_true rfl) hd h (fun r M5 hq => ?_)
        obtain ⟨x4, rfl, hE, h⟩ := hq
        have hT7 := TpS.ext hT4 hE
        have hT8 := GaS.ext hT5 hE
        have hT9 := MiS.ext (TpS.k13 hT4) hE
        refine x_pop (tk K_X10_best 27 rfl) rfl ?_
        refine x_aload_n (tk K_X10_best 28 rfl) rfl rfl ?_
        refine x_getRc (tk K_X10_best 29 rfl) f_X10_93 rfl (TpS.o hT7) (TpS.r13 hT7) ?_
        refine x_getI (tk K_X10_best 30 rfl) f_X10_312 rfl (MiS.o (TpS.k13 hT7)) ?_
        exact x_ireturn (tk K_X10_best 31 rfl) rfl rfl h
      · have h := h.2 hc
        refine x_iconst (tk K_X10_best 12 rfl) ic_m1 ?_
        exact x_ireturn (tk K_X10_best 13 rfl) rfl rfl h

theorem e_X10_best {X : Cx} {d kc ns : Nat} {M : Mem} {Q : Option AV → Mem → Prop} {a1 : Int32} {a2 : Int32} (h : WA X d kc ns m_X10_best 0 [some (vR 1), some (vI a1), some (vI a2), none] [] M Q) : Cl X d kc ns m_X10_best [vR 1, vI a1, vI a2] M Q := Cl.intro (k := 1) (by decide) rfl rfl h

-- TwoPencils.value(II)I
theorem b_X10_value_0 {X : Cx} {d kc ns : Nat} {M : Mem} {Q : Option AV → Mem → Prop} {l1 : Int32} {l2 : Int32} (hS : TpS M) (hd : 1 ≤ d)
    (h : Cl X (d - 1) 0 0 m_X10_gameAt [vR 1, vI l1] M (fun r M1 => ∃ x1 : Nat, r = some (vR x1) ∧ Ext M M1 ∧ ((x1 = 0 → Q (some (vI (-100))) M1) ∧ (¬ x1 = 0 → Cl X (d - 1) 0 0 m_X10_isGoal [vI l2] M1 (fun r M2 => ∃ x2 : Int32, r = some (vI x2) ∧ Ext M1 M2 ∧ ((¬ x2 = nI 0 → GaS M2 x1 ∧ Cl X (d - 1) 0 0 m_X5_turnTo [vR 38, vR (mR M2 x1 2), vR (mR M2 x1 3), vI (nI 0), vI l2] M2 (fun r M3 => r = none ∧ Ext M2 M3 ∧ Cl X (d - 1) 0 0 m_X5_weigh [vR 38, vR x1] M3 (fun r M4 => ∃ x3 : Int32, r = some (vI x3) ∧ Ext M3 M4 ∧ Cl X (d - 1) 0 0 m_X10_asGoal [vI l2, vI x3] M4 (fun r M5 => ∃ x4 : Int32, r = some (vI x4) ∧ Ext M4 M5 ∧ Q (some (vI x4)) M5)))) ∧ (x2 = nI 0 → Q (some (vI (-100))) M2))))))) :
    WA X d kc ns m_X10_value 0 [some (vR 1), some (vI l1), some (vI l2), none] [] M Q := by
  refine x_aload_n (tk K_X10_value 0 rfl) rfl rfl ?_
  refine x_iload_n (tk K_X10_value 1 rfl) rfl rfl ?_
  refine x_callV0 (As := [vI _]) (S := []) (tk K_X10_value 2 rfl) mk_X10_269 mo_X10_gameAt (TpS.o hS) rfl rfl (Nat.le_of_ble_eq_true rfl) hd h (fun r M1 hq => ?_)
  obtain ⟨x1, rfl, hE, h⟩ := hq
  have hT0 := TpS.ext hS hE
  refine x_astore_n (L' := [some (vR _), some (vI _), some (vI _), some (vR _)]) (tk K_X10_value 3 rfl) rfl rfl (Nat.le_of_ble_eq_true rfl) rfl ?_
  refine x_aload_n (tk K_X10_value 4 rfl) rfl rfl ?_
  refine x_ifnull (t := 17) (tk K_X10_value 5 rfl) rfl (fun hc => ?_) (fun hc => ?_)
  · have h := h.1 hc
    refine x_bipush (tk K_X10_value 9 rfl) bp_m100 ?_
    exact x_ireturn (tk K_X10_value 10 rfl) rfl rfl h
  · have h := h.2 hc
    refine x_iload_n (tk K_X10_value 6 rfl) rfl rfl ?_
    refine x_callS0 (As := [vI _]) (S := []) (tk K_X10_value 7 rfl) mk_X10_291 mo_X10_isGoal rfl rfl (Nat.le_of_ble_eq_true rfl) hd h (fun r M2 hq => ?_)
    obtain ⟨x2, rfl, hE, h⟩ := hq
    have hT1 := TpS.ext hT0 hE
    refine x_if_ne (t := 20) (tk K_X10_value 8 rfl) rfl (fun hc => ?_) (fun hc => ?_)
    · have h := h.1 hc
      refine x_aload_n (tk K_X10_value 11 rfl) rfl rfl ?_
      refine x_getRc (tk K_X10_value 12 rfl) f_X10_93 rfl (TpS.o hT1) (TpS.r13 hT1) ?_
      refine x_aload_n (tk K_X10_value 13 rfl) rfl rfl ?_
      have hS_3 := h.1
      have h := h.2
      refine x_getR (tk K_X10_value 14 rfl) f_X10_298 rfl (GaS.o hS_3) ?_
      refine x_aload_n (tk K_X10_value 15 rfl) rfl rfl ?_
      refine x_getR (tk K_X10_value 16 rfl) f_X10_301 rfl (GaS.o hS_3) ?_
      refine x_iconst (tk K_X10_value 17 rfl) ic_0 ?_
      refine x_iload_n (tk K_X10_value 18 rfl) rfl rfl ?_
      refine x_callV0 (As := [vR _, vR _, vI _, vI _]) (S := []) (tk K_X10_value 19 rfl) mk_X10_304 mo_X5_turnTo (MiS.o (TpS.k13 hT1)) rfl rfl (Nat.le_of_ble_eq_true rfl) hd h (fun r M3 hq => ?_)
      obtain ⟨rfl, hE, h⟩ := hq
      have hT2 := TpS.ext hT1 hE
      have hT3 := MiS.ext (TpS.k13 hT1) hE
      have hT4 := GaS.ext hS_3 hE
      refine x_iload_n (tk K_X10_value 20 rfl) rfl rfl ?_
      refine x_aload_n (tk K_X10_value 21 rfl) rfl rfl ?_
      refine x_getRc (tk K_X10_value 22 rfl) f_X10_93 rfl (TpS.o hT2) (TpS.r13 hT2) ?_
      refine x_aload_n (tk K_X10_value 23 rfl) rfl rfl ?_
      refine x_callV0 (As := [vR _]) (S := [vI _]) (tk K_X10_value 24 rfl) mk_X10_308 mo_X5_weigh (MiS.o (TpS.k13 hT2)) rfl rfl (Nat.le_of_ble_eq_true rfl) hd h (fun r M4 hq => ?_)
      obtain ⟨x3, rfl, hE, h⟩ := hq
      have hT5 := TpS.ext hT2 hE
      have hT6 := MiS.ext (TpS.k13 hT2) hE
      have hT7 := GaS.ext hT4 hE
      refine x_callS0 (As := [vI _, vI _]) (S := []) (tk K_X10_value 25 rfl) mk_X10_315 mo_X10_asGoal rfl rfl (Nat.le_of_ble_eq_true rfl) hd h (fun r M5 hq => ?_)
      obtain ⟨x4, rfl, hE, h⟩ := hq
      have hT8 := TpS.ext hT5 hE
      have hT9 := MiS.ext hT6 hE
      have hT10 := GaS.ext hT7 hE
      exact x_ireturn (tk K_X10_value 26 rfl) rfl rfl h
    · have h := h.2 hc
      refine x_bipush (tk K_X10_value 9 rfl) bp_m100 ?_
      exact x_ireturn (tk K_X10_value 10 rfl) rfl rfl h

theorem e_X10_value {X : Cx} {d kc ns : Nat} {M : Mem} {Q : Option AV → Mem → Prop} {a1 : Int32} {a2 : Int32} (h : WA X d kc ns m_X10_value 0 [some (vR 1), some (vI a1), some (vI a2), none] [] M Q) : Cl X d kc ns m_X10_value [vR 1, vI a1, vI a2] M Q := Cl.intro (k := 1) (by decide) rfl rfl h

-- TwoPencils.kept(II)I
theorem b_X10_kept_0 {X : Cx} {d kc ns : Nat} {M : Mem} {Q : Option AV → Mem → Prop} {l1 : Int32} {l2 : Int32} (hS : TpS M) (hd : 1 ≤ d)
    (h : Cl X (d - 1) 0 0 m_X10_gameAt [vR 1, vI l1] M (fun r M1 => ∃ x1 : Nat, r = some (vR x1) ∧ Ext M M1 ∧ ((¬ x1 = 0 → ((¬ l2 = (-1) → ((l2 < nI 0 → Q (some (vI (-1))) M1) ∧ (¬ l2 < nI 0 → GaS M1 x1 ∧ (((mI M1 x1 7) ≤ l2 → Q (some (vI (-1))) M1) ∧ (¬ (mI M1 x1 7) ≤ l2 → vp_in l2 4 ∧ Q (some (vI (mI M1 (x1 + 2) (ix l2)))) M1))))) ∧ (l2 = (-1) → GaS M1 x1 ∧ Q (some (vI (mI M1 x1 7))) M1))) ∧ (x1 = 0 → Q (some (vI (-1))) M1)))) :
    WA X d kc ns m_X10_kept 0 [some (vR 1), some (vI l1), some (vI l2), none] [] M Q := by
  refine x_aload_n (tk K_X10_kept 0 rfl) rfl rfl ?_
  refine x_iload_n (tk K_X10_kept 1 rfl) rfl rfl ?_
  refine x_callV0 (As := [vI _]) (S := []) (tk K_X10_kept 2 rfl) mk_X10_269 mo_X10_gameAt (TpS.o hS) rfl rfl (Nat.le_of_ble_eq_true rfl) hd h (fun r M1 hq => ?_)
  obtain ⟨x1, rfl, hE, h⟩ := hq
  have hT0 := TpS.ext hS hE
  refine x_astore_n (L' := [some (vR _), some (vI _), some (vI _), some (vR _)]) (tk K_X10_kept 3 rfl) rfl rfl (Nat.le_of_ble_eq_true rfl) rfl ?_
  refine x_aload_n (tk K_X10_kept 4 rfl) rfl rfl ?_
  refine x_ifnonnull (t := 12) (tk K_X10_kept 5 rfl) rfl (fun hc => ?_) (fun hc => ?_)
  · have h := h.1 hc
    refine x_iload_n (tk K_X10_kept 8 rfl) rfl rfl ?_
    refine x_iconst (tk K_X10_kept 9 rfl) ic_m1 ?_
    refine x_icmp_ne (t := 22) (tk K_X10_kept 10 rfl) rfl (fun hc => ?_) (fun hc => ?_)
    · have h := h.1 hc
      refine x_iload_n (tk K_X10_kept 14 rfl) rfl rfl ?_
      refine x_if_lt (t := 43) (tk K_X10_kept 15 rfl) rfl (fun hc => ?_) (fun hc => ?_)
      · have h := h.1 hc
        refine x_iconst (tk K_X10_kept 25 rfl) ic_m1 ?_
        exact x_ireturn (tk K_X10_kept 26 rfl) rfl rfl h
      · have h := h.2 hc
        refine x_iload_n (tk K_X10_kept 16 rfl) rfl rfl ?_
        refine x_aload_n (tk K_X10_kept 17 rfl) rfl rfl ?_
        have hS_2 := h.1
        have h := h.2
        refine x_getI (tk K_X10_kept 18 rfl) f_X10_318 rfl (GaS.o hS_2) ?_
        refine x_icmp_ge (t := 43) (tk K_X10_kept 19 rfl) rfl (fun hc => ?_) (fun hc => ?_)
        · have h := h.1 hc
          refine x_iconst (tk K_X10_kept 25 rfl) ic_m1 ?_
          exact x_ireturn (tk K_X10_kept 26 rfl) rfl rfl h
        · have h := h.2 hc
          refine x_aload_n (tk K_X10_kept 20 rfl) rfl rfl ?_
          refine x_getRc (tk K_X10_kept 21 rfl) f_X10_321 rfl (GaS.o hS_2) (GaS.r6 hS_2) ?_
          refine x_iload_n (tk K_X10_kept 22 rfl) rfl rfl ?_
          have hi := h.1
          have h := h.2
          refine x_iald (tk K_X10_kept 23 rfl) (GaS.k6 hS_2) hi ?_
          refine x_goto (t := 44) (tk K_X10_kept 24 rfl) rfl ?_
          exact x_ireturn (tk K_X10_kept 26 rfl) rfl rfl h
    · have h := h.2 hc
      refine x_aload_n (tk K_X10_kept 11 rfl) rfl rfl ?_
      have hS_22 := h.1
      have h := h.2
      refine x_getI (tk K_X10_kept 12 rfl) f_X10_318 rfl (GaS.o hS_22) ?_
      exact x_ireturn (tk K_X10_kept 13 rfl) rfl rfl h
  · have h := h.2 hc
    refine x_iconst (tk K_X10_kept 6 rfl) ic_m1 ?_
    exact x_ireturn (tk K_X10_kept 7 rfl) rfl rfl h

theorem e_X10_kept {X : Cx} {d kc ns : Nat} {M : Mem} {Q : Option AV → Mem → Prop} {a1 : Int32} {a2 : Int32} (h : WA X d kc ns m_X10_kept 0 [some (vR 1), some (vI a1), some (vI a2), none] [] M Q) : Cl X d kc ns m_X10_kept [vR 1, vI a1, vI a2] M Q := Cl.intro (k := 1) (by decide) rfl rfl h

-- TwoPencils.sure(III)I
theorem b_X10_sure_0 {X : Cx} {d kc ns : Nat} {M : Mem} {Q : Option AV → Mem → Prop} {l1 : Int32} {l2 : Int32} {l3 : Int32} (hS : TpS M) (hd : 1 ≤ d)
    (h : Cl X (d - 1) 0 0 m_X10_readyLand [vR 1, vI l1] M (fun r M1 => ∃ x1 : Nat, r = some (vR x1) ∧ Ext M M1 ∧ ((x1 = 0 → Q (some (vI (-100))) M1) ∧ (¬ x1 = 0 → Cl X (d - 1) 0 0 m_X10_protocolAt [vR 1, vI l2] M1 (fun r M2 => ∃ x2 : Nat, r = some (vR x2) ∧ Ext M1 M2 ∧ ((x2 = 0 → Q (some (vI (-100))) M2) ∧ (¬ x2 = 0 → Cl X (d - 1) 0 0 m_X10_isGoal [vI l3] M2 (fun r M3 => ∃ x3 : Int32, r = some (vI x3) ∧ Ext M2 M3 ∧ ((¬ x3 = nI 0 → Cl X (d - 1) 0 0 m_X10_answer [vR 1, vI l1, vI l2, vI l3] M3 (fun r M4 => ∃ x4 : Int32, r = some (vI x4) ∧ Ext M3 M4 ∧ Cl X (d - 1) 0 0 m_X10_asGoal [vI l3, vI x4] M4 (fun r M5 => ∃ x5 : Int32, r = some (vI x5) ∧ Ext M4 M5 ∧ Q (some (vI x5)) M5))) ∧ (x3 = nI 0 → Q (some (vI (-100))) M3)))))))))) :
    WA X d kc ns m_X10_sure 0 [some (vR 1), some (vI l1), some (vI l2), some (vI l3)] [] M Q := by
  refine x_aload_n (tk K_X10_sure 0 rfl) rfl rfl ?_
  refine x_iload_n (tk K_X10_sure 1 rfl) rfl rfl ?_
  refine x_callV0 (As := [vI _]) (S := []) (tk K_X10_sure 2 rfl) mk_X10_184 mo_X10_readyLand (TpS.o hS) rfl rfl (Nat.le_of_ble_eq_true rfl) hd h (fun r M1 hq => ?_)
  obtain ⟨x1, rfl, hE, h⟩ := hq
  have hT0 := TpS.ext hS hE
  refine x_ifnull (t := 23) (tk K_X10_sure 3 rfl) rfl (fun hc => ?_) (fun hc => ?_)
  · have h := h.1 hc
    refine x_bipush (tk K_X10_sure 11 rfl) bp_m100 ?_
    exact x_ireturn (tk K_X10_sure 12 rfl) rfl rfl h
  · have h := h.2 hc
    refine x_aload_n (tk K_X10_sure 4 rfl) rfl rfl ?_
    refine x_iload_n (tk K_X10_sure 5 rfl) rfl rfl ?_
    refine x_callV0 (As := [vI _]) (S := []) (tk K_X10_sure 6 rfl) mk_X10_261 mo_X10_protocolAt (TpS.o hT0) rfl rfl (Nat.le_of_ble_eq_true rfl) hd h (fun r M2 hq => ?_)
    obtain ⟨x2, rfl, hE, h⟩ := hq
    have hT1 := TpS.ext hT0 hE
    refine x_ifnull (t := 23) (tk K_X10_sure 7 rfl) rfl (fun hc => ?_) (fun hc => ?_)
    · have h := h.1 hc
      refine x_bipush (tk K_X10_sure 11 rfl) bp_m100 ?_
      exact x_ireturn (tk K_X10_sure 12 rfl) rfl rfl h
    · have h := h.2 hc
      refine x_iload_n (tk K_X10_sure 8 rfl) rfl rfl ?_
      refine x_callS0 (As := [vI _]) (S := []) (tk K_X10_sure 9 rfl) mk_X10_291 mo_X10_isGoal rfl rfl (Nat.le_of_ble_eq_true rfl) hd h (fun r M3 hq => ?_)
      obtain ⟨x3, rfl, hE, h⟩ := hq
      have hT2 := TpS.ext hT1 hE
      refine x_if_ne (t := 26) (tk K_X10_sure 10 rfl) rfl (fun hc => ?_) (fun hc => ?_)
      · have h := h.1 hc
        refine x_iload_n (tk K_X10_sure 13 rfl) rfl rfl ?_
        refine x_aload_n (tk K_X10_sure 14 rfl) rfl rfl ?_
        refine x_iload_n (tk K_X10_sure 15 rfl) rfl rfl ?_
        refine x_iload_n (tk K_X10_sure 16 rfl) rfl rfl ?_
        refine x_iload_n (tk K_X10_sure 17 rfl) rfl rfl ?_
        refine x_callV0 (As := [vI _, vI _, vI _]) (S := [vI _]) (tk K_X10_sure 18 rfl) mk_X10_324 mo_X10_answer (TpS.o hT2) rfl rfl (Nat.le_of_ble_eq_true rfl) hd h (fun r M4 hq => ?_)
        obtain ⟨x4, rfl, hE, h⟩ := hq
        have hT3 := TpS.ext hT2 hE
        refine x_callS0 (As := [vI _, vI _]) (S := []) (tk K_X10_sure 19 rfl) mk_X10_315 mo_X10_asGoal rfl rfl (Nat.le_of_ble_eq_true rfl) hd h (fun r M5 hq => ?_)
        obtain ⟨x5, rfl, hE, h⟩ := hq
        have hT4 := TpS.ext hT3 hE
        exact x_ireturn (tk K_X10_sure 20 rfl) rfl rfl h
      · have h := h.2 hc
        refine x_bipush (tk K_X10_sure 11 rfl) bp_m100 ?_
        exact x_ireturn (tk K_X10_sure 12 rfl) rfl rfl h

theorem e_X10_sure {X : Cx} {d kc ns : Nat} {M : Mem} {Q : Option AV → Mem → Prop} {a1 : Int32} {a2 : Int32} {a3 : Int32} (h : WA X d kc ns m_X10_sure 0 [some (vR 1), some (vI a1), some (vI a2), some (vI a3)] [] M Q) : Cl X d kc ns m_X10_sure [vR 1, vI a1, vI a2, vI a3] M Q := Cl.intro (k := 0) (by decide) rfl rfl h

-- TwoPencils.ended(II)I
theorem b_X10_ended_0 {X : Cx} {d kc ns : Nat} {M : Mem} {Q : Option AV → Mem → Prop} {l1 : Int32} {l2 : Int32} (hS : TpS M) (hd : 1 ≤ d)
    (h : Cl X (d - 1) 0 0 m_X10_endOf [vR 1, vI l1, vI l2] M (fun r M1 => ∃ x1 : Int32, r = some (vI x1) ∧ Ext M M1 ∧ Q (some (vI x1)) M1)) :
    WA X d kc ns m_X10_ended 0 [some (vR 1), some (vI l1), some (vI l2)] [] M Q := by
  refine x_aload_n (tk K_X10_ended 0 rfl) rfl rfl ?_
  refine x_iload_n (tk K_X10_ended 1 rfl) rfl rfl ?_
  refine x_iload_n (tk K_X10_ended 2 rfl) rfl rfl ?_
  refine x_callV0 (As := [vI _, vI _]) (S := []) (tk K_X10_ended 3 rfl) mk_X10_327 mo_X10_endOf (TpS.o hS) rfl rfl (Nat.le_of_ble_eq_true rfl) hd h (fun r M1 hq => ?_)
  obtain ⟨x1, rfl, hE, h⟩ := hq
  have hT0 := TpS.ext hS hE
  exact x_ireturn (tk K_X10_ended 4 rfl) rfl rfl h

theorem e_X10_ended {X : Cx} {d kc ns : Nat} {M : Mem} {Q : Option AV → Mem → Prop} {a1 : Int32} {a2 : Int32} (h : WA X d kc ns m_X10_ended 0 [some (vR 1), some (vI a1), some (vI a2)] [] M Q) : Cl X d kc ns m_X10_ended [vR 1, vI a1, vI a2] M Q := Cl.intro (k := 0) (by decide) rfl rfl h

-- TwoPencils.first(II)I
theorem b_X10_first_0 {X : Cx} {d kc ns : Nat} {M : Mem} {Q : Option AV → Mem → Prop} {l1 : Int32} {l2 : Int32} (hS : TpS M) (hd : 1 ≤ d)
    (h : Cl X (d - 1) 0 0 m_X10_readyLand [vR 1, vI l1] M (fun r M1 => ∃ x1 : Nat, r = some (vR x1) ∧ Ext M M1 ∧ ((x1 = 0 → Q (some (vI (-100))) M1) ∧ (¬ x1 = 0 → Cl X (d - 1) 0 0 m_X10_protocolAt [vR 1, vI l2] M1 (fun r M2 => ∃ x2 : Nat, r = some (vR x2) ∧ Ext M1 M2 ∧ ((¬ x2 = 0 → Cl X (d - 1) 0 0 m_X10_answer [vR 1, vI l1, vI l2, vI (nI 0)] M2 (fun r M3 => ∃ x3 : Int32, r = some (vI x3) ∧ Ext M2 M3 ∧ Cl X (d - 1) 0 0 m_X10_answer [vR 1, vI l1, vI l2, vI (nI 3)] M3 (fun r M4 => ∃ x4 : Int32, r = some (vI x4) ∧ Ext M3 M4 ∧ Q (some (vI (x3 - x4))) M4))) ∧ (x2 = 0 → Q (some (vI (-100))) M2))))))) :
    WA X d kc ns m_X10_first 0 [some (vR 1), some (vI l1), some (vI l2)] [] M Q := by
  refine x_aload_n (tk K_X10_first 0 rfl) rfl rfl ?_
  refine x_iload_n (tk K_X10_first 1 rfl) rfl rfl ?_
  refine x_callV0 (As := [vI _]) (S := []) (tk K_X10_first 2 rfl) mk_X10_184 mo_X10_readyLand (TpS.o hS) rfl rfl (Nat.le_of_ble_eq_true rfl) hd h (fun r M1 hq => ?_)
  obtain ⟨x1, rfl, hE, h⟩ := hq
  have hT0 := TpS.ext hS hE
  refine x_ifnull (t := 16) (tk K_X10_first 3 rfl) rfl (fun hc => ?_) (fun hc => ?_)
  · have h := h.1 hc
    refine x_bipush (tk K_X10_first 8 rfl) bp_m100 ?_
    exact x_ireturn (tk K_X10_first 9 rfl) rfl rfl h
  · have h := h.2 hc
    refine x_aload_n (tk K_X10_first 4 rfl) rfl rfl ?_
    refine x_iload_n (tk K_X10_first 5 rfl) rfl rfl ?_
    refine x_callV0 (As := [vI _]) (S := []) (tk K_X10_first 6 rfl) mk_X10_261 mo_X10_protocolAt (TpS.o hT0) rfl rfl (Nat.le_of_ble_eq_true rfl) hd h (fun r M2 hq => ?_)
    obtain ⟨x2, rfl, hE, h⟩ := hq
    have hT1 := TpS.ext hT0 hE
    refine x_ifnonnull (t := 19) (tk K_X10_first 7 rfl) rfl (fun hc => ?_) (fun hc => ?_)
    · have h := h.1 hc
      refine x_aload_n (tk K_X10_first 10 rfl) rfl rfl ?_
      refine x_iload_n (tk K_X10_first 11 rfl) rfl rfl ?_
      refine x_iload_n (tk K_X10_first 12 rfl) rfl rfl ?_
      refine x_iconst (tk K_X10_first 13 rfl) ic_0 ?_
      refine x_callV0 (As := [vI _, vI _, vI _]) (S := []) (tk K_X10_first 14 rfl) mk_X10_324 mo_X10_answer (TpS.o hT1) rfl rfl (Nat.le_of_ble_eq_true rfl) hd h (fun r M3 hq => ?_)
      obtain ⟨x3, rfl, hE, h⟩ := hq
      have hT2 := TpS.ext hT1 hE
      refine x_aload_n (tk K_X10_first 15 rfl) rfl rfl ?_
      refine x_iload_n (tk K_X10_first 16 rfl) rfl rfl ?_
      refine x_iload_n (tk K_X10_first 17 rfl) rfl rfl ?_
      refine x_iconst (tk K_X10_first 18 rfl) ic_3 ?_
      refine x_callV0 (As := [vI _, vI _, vI _]) (S := [vI _]) (tk K_X10_first 19 rfl) mk_X10_324 mo_X10_answer (TpS.o hT2) rfl rfl (Nat.le_of_ble_eq_true rfl) hd h (fun r M4 hq => ?_)
      obtain ⟨x4, rfl, hE, h⟩ := hq
      have hT3 := TpS.ext hT2 hE
      refine x_isub (tk K_X10_first 20 rfl) ?_
      exact x_ireturn (tk K_X10_first 21 rfl) rfl rfl h
    · have h := h.2 hc
      refine x_bipush (tk K_X10_first 8 rfl) bp_m100 ?_
      exact x_ireturn (tk K_X10_first 9 rfl) rfl rfl h

theorem e_X10_first {X : Cx} {d kc ns : Nat} {M : Mem} {Q : Option AV → Mem → Prop} {a1 : Int32} {a2 : Int32} (h : WA X d kc ns m_X10_first 0 [some (vR 1), some (vI a1), some (vI a2)] [] M Q) : Cl X d kc ns m_X10_first [vR 1, vI a1, vI a2] M Q := Cl.intro (k := 0) (by decide) rfl rfl h

-- TwoPencils.worst(I)I
theorem b_X10_worst_0 {X : Cx} {d kc ns : Nat} {M : Mem} {Q : Option AV → Mem → Prop} {l1 : Int32} (hS : TpS M) (hd : 1 ≤ d)
    (h : Cl X (d - 1) 0 0 m_X10_protocolAt [vR 1, vI l1] M (fun r M1 => ∃ x1 : Nat, r = some (vR x1) ∧ Ext M M1 ∧ ((¬ x1 = 0 → WA X d kc ns m_X10_worst 20 [some (vR 1), some (vI l1), some (vI (-1)), some (vI (nI 0)), some (vI (nI 1)), some (vI (nI 0)), none, none, none] [] M1 Q) ∧ (x1 = 0 → Q (some (vI (-1))) M1)))) :
    WA X d kc ns m_X10_worst 0 [some (vR 1), some (vI l1), none, none, none, none, none, none, none] [] M Q := by
  refine x_aload_n (tk K_X10_worst 0 rfl) rfl rfl ?_
  refine x_iload_n (tk K_X10_worst 1 rfl) rfl rfl ?_
  refine x_callV0 (As := [vI _]) (S := []) (tk K_X10_worst 2 rfl) mk_X10_261 mo_X10_protocolAt (TpS.o hS) rfl rfl (Nat.le_of_ble_eq_true rfl) hd h (fun r M1 hq => ?_)
  obtain ⟨x1, rfl, hE, h⟩ := hq
  have hT0 := TpS.ext hS hE
  refine x_ifnonnull (t := 10) (tk K_X10_worst 3 rfl) rfl (fun hc => ?_) (fun hc => ?_)
  · have h := h.1 hc
    refine x_iconst (tk K_X10_worst 6 rfl) ic_m1 ?_
    refine x_istore_n (L' := [some (vR _), some (vI _), some (vI _), none, none, none, none, none, none]) (tk K_X10_worst 7 rfl) rfl rfl (Nat.le_of_ble_eq_true rfl) rfl ?_
    refine x_iconst (tk K_X10_worst 8 rfl) ic_0 ?_
    refine x_istore_n (L' := [some (vR _), some (vI _), some (vI _), some (vI _), none, none, none, none, none]) (tk K_X10_worst 9 rfl) rfl rfl (Nat.le_of_ble_eq_true rfl) rfl ?_
    refine x_iconst (tk K_X10_worst 10 rfl) ic_1 ?_
    refine x_istore (L' := [some (vR _), some (vI _), some (vI _), some (vI _), some (vI _), none, none, none, none]) (tk K_X10_worst 11 rfl) rfl (Nat.le_of_ble_eq_true rfl) rfl ?_
    refine x_iconst (tk K_X10_worst 12 rfl) ic_0 ?_
    refine x_istore (L' := [some (vR _), some (vI _), some (vI _), some (vI _), some (vI _), some (vI _), none, none, none]) (tk K_X10_worst 13 rfl) rfl (Nat.le_of_ble_eq_true rfl) rfl ?_
    exact h
  · have h := h.2 hc
    refine x_iconst (tk K_X10_worst 4 rfl) ic_m1 ?_
    exact x_ireturn (tk K_X10_worst 5 rfl) rfl rfl h

theorem b_X10_worst_20 {X : Cx} {d kc ns : Nat} {M : Mem} {Q : Option AV → Mem → Prop} {l1 : Int32} {l2 : Int32} {l3 : Int32} {l4 : Int32} {l5 : Int32} (hS : TpS M) (hd : 1 ≤ d)
    (h : (((mI M 1 6) ≤ l5 → Q (some (vI l2)) M) ∧ (¬ (mI M 1 6) ≤ l5 → Cl X (d - 1) 0 0 m_X10_endOf [vR 1, vI l5, vI l1] M (fun r M1 => ∃ x1 : Int32, r = some (vI x1) ∧ Ext M M1 ∧ Cl X (d - 1) 0 0 m_X10_farOfEnd [vR 1, vI l5, vI x1] M1 (fun r M2 => ∃ x2 : Int32, r = some (vI x2) ∧ Ext M1 M2 ∧ Cl X (d - 1) 0 0 m_X10_landAt [vR 1, vI l5] M2 (fun r M3 => ∃ x3 : Nat, r = some (vR x3) ∧ Ext M2 M3 ∧ ((x3 = 0 → WA X d kc ns m_X10_worst 20 [some (vR 1), some (vI l1), some (vI l2), some (vI l3), some (vI l4), some (vI (l5 + (nI 1))), none, none, none] [] M3 Q) ∧ (¬ x3 = 0 → ((¬ x2 = (-1) → LaS M3 x3 ∧ Cl X (d - 1) 0 0 m_X3_farLower [vR x3] M3 (fun r M4 => ∃ x4 : Int32, r = some (vI x4) ∧ Ext M3 M4 ∧ ((l2 = (-1) → WA X d kc ns m_X10_worst 90 [some (vR 1), some (vI l1), none, none, none, some (vI l5), some (vI x2), none, some (vI x4)] [] M4 Q) ∧ (¬ l2 = (-1) → (((x2 * l4) ≤ (l3 * x4) → WA X d kc ns m_X10_worst 20 [some (vR 1), some (vI l1), some (vI l2), some (vI l3), some (vI l4), some (vI (l5 + (nI 1))), none, none, none] [] M4 Q) ∧ (¬ (x2 * l4) ≤ (l3 * x4) → WA X d kc ns m_X10_worst 90 [some (vR 1), some (vI l1), none, none, none, some (vI l5), some (vI x2), none, some (vI x4)] [] M4 Q)))))) ∧ (x2 = (-1) → WA X d kc ns m_X10_worst 20 [some (vR 1), some (vI l1), some (vI l2), some (vI l3), some (vI l4), some (vI (l5 + (nI 1))), none, none, none] [] M3 Q)))))))))) :
    WA X d kc ns m_X10_worst 20 [some (vR 1), some (vI l1), some (vI l2), some (vI l3), some (vI l4), some (vI l5), none, none, none] [] M Q := by
  refine x_iload (tk K_X10_worst 14 rfl) rfl ?_
  refine x_aload_n (tk K_X10_worst 15 rfl) rfl rfl ?_
  refine x_getI (tk K_X10_worst 16 rfl) f_X10_48 rfl (TpS.o hS) ?_
  refine x_icmp_ge (t := 106) (tk K_X10_worst 17 rfl) rfl (fun hc => ?_) (fun hc => ?_)
  · have h := h.1 hc
    refine x_iload_n (tk K_X10_worst 57 rfl) rfl rfl ?_
    exact x_ireturn (tk K_X10_worst 58 rfl) rfl rfl h
  · have h := h.2 hc
    refine x_aload_n (tk K_X10_worst 18 rfl) rfl rfl ?_
    refine x_iload (tk K_X10_worst 19 rfl) rfl ?_
    refine x_aload_n (tk K_X10_worst 20 rfl) rfl rfl ?_
    refine x_iload (tk K_X10_worst 21 rfl) rfl ?_
    refine x_iload_n (tk K_X10_worst 22 rfl) rfl rfl ?_
    refine x_callV0 (As := [vI _, vI _]) (S := [vI _, vR _]) (tk K_X10_worst 23 rfl) mk_X10_327 mo_X10_endOf (TpS.o hS) rfl rfl (Nat.le_of_ble_eq_true rfl) hd h (fun r M1 hq => ?_)
    obtain ⟨x1, rfl, hE, h⟩ := hq
    have hT0 := TpS.ext hS hE
    refine x_callV0 (As := [vI _, vI _]) (S := []) (tk K_X10_worst 24 rfl) mk_X10_330 mo_X10_farOfEnd (TpS.o hT0) rfl rfl (Nat.le_of_ble_eq_true rfl) hd h (fun r M2 hq => ?_)
    obtain ⟨x2, rfl, hE, h⟩ := hq
    have hT1 := TpS.ext hT0 hE
    refine x_istore (L' := [some (vR _), some (vI _), some (vI _), some (vI _), some (vI _), some (vI _), some (vI _), none, none]) (tk K_X10_worst 25 rfl) rfl (Nat.le_of_ble_eq_true rfl) rfl ?_
    refine x_aload_n (tk K_X10_worst 26 rfl) rfl rfl ?_
    refine x_iload (tk K_X10_worst 27 rfl) rfl ?_
    refine x_callV0 (As := [vI _]) (S := []) (tk K_X10_worst 28 rfl) mk_X10_136 mo_X10_landAt (TpS.o hT1) rfl rfl (Nat.le_of_ble_eq_true rfl) hd h (fun r M3 hq => ?_)
    obtain ⟨x3, rfl, hE, h⟩ := hq
    have hT2 := TpS.ext hT1 hE
    refine x_astore (L' := [some (vR _), some (vI _), some (vI _), some (vI _), some (vI _), some (vI _), some (vI _), some (vR _), none]) (tk K_X10_worst 29 rfl) rfl (Nat.le_of_ble_eq_true rfl) rfl ?_
    refine x_aload (tk K_X10_worst 30 rfl) rfl ?_
    refine x_ifnull (t := 100) (tk K_X10_worst 31 rfl) rfl (fun hc => ?_) (fun hc => ?_)
    · have h := h.1 hc
      refine x_iincW (L' := [some (vR _), some (vI _), some (vI _), some (vI _), some (vI _), some (vI _), some (vI _), some (vR _), none]) (tk K_X10_worst 55 rfl) rfl ic_1 rfl (Nat.le_of_ble_eq_true rfl) rfl ?_
      refine x_goto (t := 20) (tk K_X10_worst 56 rfl) rfl ?_
      refine x_msk [true, true, true, true, true, true, false, false, false] ?_
      exact h
    · have h := h.2 hc
      refine x_iload (tk K_X10_worst 32 rfl) rfl ?_
      refine x_iconst (tk K_X10_worst 33 rfl) ic_m1 ?_
      refine x_icmp_ne (t := 66) (tk K_X10_worst 34 rfl) rfl (fun hc => ?_) (fun hc => ?_)
      · have h := h.1 hc
        refine x_aload (tk K_X10_worst 36 rfl) rfl ?_
        have hS_2 := h.1
        have h := h.2
        refine x_callV0 (As := []) (S := []) (tk K_X10_worst 37 rfl) mk_X10_231 mo_X3_farLower (LaS.o hS_2) rfl rfl (Nat.le_of_ble_eq_true rfl) hd h (fun r M4 hq => ?_)
        obtain ⟨x4, rfl, hE, h⟩ := hq
        have hT3 := TpS.ext hT2 hE
        have hT4 := LaS.ext hS_2 hE
        refine x_istore (L' := [some (vR _), some (vI _), some (vI _), some (vI _), some (vI _), some (vI _), some (vI _), some (vR _), some (vI _)]) (tk K_X10_worst 38 rfl) rfl (Nat.le_of_ble_eq_true rfl) rfl ?_
        refine x_iload_n (tk K_X10_worst 39 rfl) rfl rfl ?_
        refine x_iconst (tk K_X10_worst 40 rfl) ic_m1 ?_
        refine x_icmp_eq (t := 90) (tk K_X10_worst 41 rfl) rfl (fun hc => ?_) (fun hc => ?_)
        · have h := h.1 hc
          refine x_msk [true, true, false, false, false, true, true, false, true] ?_
          exact h
        · have h := h.2 hc
          refine x_iload (tk K_X10_worst 42 rfl) rfl ?_
          refine x_iload (tk K_X10_worst 43 rfl) rfl ?_
          refine x_imul (tk K_X10_worst 44 rfl) ?_
          refine x_iload_n (tk K_X10_worst 45 rfl) rfl rfl ?_
          refine x_iload (tk K_X10_worst 46 rfl) rfl ?_
          refine x_imul (tk K_X10_worst 47 rfl) ?_
          refine x_icmp_le (t := 100) (tk K_X10_worst 48 rfl) rfl (fun hc => ?_) (fun hc => ?_)
          · have h := h.1 hc
            refine x_iincW (L' := [some (vR _), some (vI _), some (vI _), some (vI _), some (vI _), some (vI _), some (vI _), some (vR _), some (vI _)]) (tk K_X10_worst 55 rfl) rfl ic_1 rfl (Nat.le_of_ble_eq_true rfl) rfl ?_
            refine x_goto (t := 20) (tk K_X10_worst 56 rfl) rfl ?_
            refine x_msk [true, true, true, true, true, true, false, false, false] ?_
            exact h
          · have h := h.2 hc
            refine x_msk [true, true, false, false, false, true, true, false, true] ?_
            exact h
      · have h := h.2 hc
        refine x_goto (t := 100) (tk K_X10_worst 35 rfl) rfl ?_
        refine x_iincW (L' := [some (vR _), some (vI _), some (vI _), some (vI _), some (vI _), some (vI _), some (vI _), some (vR _), none]) (tk K_X10_worst 55 rfl) rfl ic_1 rfl (Nat.le_of_ble_eq_true rfl) rfl ?_
        refine x_goto (t := 20) (tk K_X10_worst 56 rfl) rfl ?_
        refine x_msk [true, true, true, true, true, true, false, false, false] ?_
        exact h

theorem b_X10_worst_90 {X : Cx} {d kc ns : Nat} {M : Mem} {Q : Option AV → Mem → Prop} {l1 : Int32} {l5 : Int32} {l6 : Int32} {l8 : Int32} (hS : TpS M)
    (h : WA X d kc ns m_X10_worst 20 [some (vR 1), some (vI l1), some (vI l5), some (vI l6), some (vI l8), some (vI (l5 + (nI 1))), none, none, none] [] M Q) :
    WA X d kc ns m_X10_worst 90 [some (vR 1), some (vI l1), none, none, none, some (vI l5), some (vI l6), none, some (vI l8)] [] M Q := by
  refine x_iload (tk K_X10_worst 49 rfl) rfl ?_
  refine x_istore_n (L' := [some (vR _), some (vI _), some (vI _), none, none, some (vI _), some (vI _), none, some (vI _)]) (tk K_X10_worst 50 rfl) rfl rfl (Nat.le_of_ble_eq_true rfl) rfl ?_
  refine x_iload (tk K_X10_worst 51 rfl) rfl ?_
  refine x_istore_n (L' := [some (vR _), some (vI _), some (vI _), some (vI _), none, some (vI _), some (vI _), none, some (vI _)]) (tk K_X10_worst 52 rfl) rfl rfl (Nat.le_of_ble_eq_true rfl) rfl ?_
  refine x_iload (tk K_X10_worst 53 rfl) rfl ?_
  refine x_istore (L' := [some (vR _), some (vI _), some (vI _), some (vI _), some (vI _), some (vI _), some (vI _), none, some (vI _)]) (tk K_X10_worst 54 rfl) rfl (Nat.le_of_ble_eq_true rfl) rfl ?_
  refine x_iincW (L' := [some (vR _), some (vI _), some (vI _), some (vI _), some (vI _), some (vI _), some (vI _), none, some (vI _)]) (tk K_X10_worst 55 rfl) rfl ic_1 rfl (Nat.le_of_ble_eq_true rfl) rfl ?_
  refine x_goto (t := 20) (tk K_X10_worst 56 rfl) rfl ?_
  refine x_msk [true, true, true, true, true, true, false, false, false] ?_
  exact h

theorem e_X10_worst {X : Cx} {d kc ns : Nat} {M : Mem} {Q : Option AV → Mem → Prop} {a1 : Int32} (h : WA X d kc ns m_X10_worst 0 [some (vR 1), some (vI a1), none, none, none, none, none, none, none] [] M Q) : Cl X d kc ns m_X10_worst [vR 1, vI a1] M Q := Cl.intro (k := 7) (by decide) rfl rfl h

-- TwoPencils.worse(II)I
theorem b_X10_worse_0 {X : Cx} {d kc ns : Nat} {M : Mem} {Q : Option AV → Mem → Prop} {l1 : Int32} {l2 : Int32} (hS : TpS M) (hd : 1 ≤ d)
    (h : Cl X (d - 1) 0 0 m_X10_protocolAt [vR 1, vI l1] M (fun r M1 => ∃ x1 : Nat, r = some (vR x1) ∧ Ext M M1 ∧ ((x1 = 0 → Q (some (vI (-1))) M1) ∧ (¬ x1 = 0 → Cl X (d - 1) 0 0 m_X10_protocolAt [vR 1, vI l2] M1 (fun r M2 => ∃ x2 : Nat, r = some (vR x2) ∧ Ext M1 M2 ∧ ((¬ x2 = 0 → WA X d kc ns m_X10_worse 23 [some (vR 1), some (vI l1), some (vI l2), some (vI (nI 0)), some (vI (nI 0)), none, none] [] M2 Q) ∧ (x2 = 0 → Q (some (vI (-1))) M2))))))) :
    WA X d kc ns m_X10_worse 0 [some (vR 1), some (vI l1), some (vI l2), none, none, none, none] [] M Q := by
  refine x_aload_n (tk K_X10_worse 0 rfl) rfl rfl ?_
  refine x_iload_n (tk K_X10_worse 1 rfl) rfl rfl ?_
  refine x_callV0 (As := [vI _]) (S := []) (tk K_X10_worse 2 rfl) mk_X10_261 mo_X10_protocolAt (TpS.o hS) rfl rfl (Nat.le_of_ble_eq_true rfl) hd h (fun r M1 hq => ?_)
  obtain ⟨x1, rfl, hE, h⟩ := hq
  have hT0 := TpS.ext hS hE
  refine x_ifnull (t := 16) (tk K_X10_worse 3 rfl) rfl (fun hc => ?_) (fun hc => ?_)
  · have h := h.1 hc
    refine x_iconst (tk K_X10_worse 8 rfl) ic_m1 ?_
    exact x_ireturn (tk K_X10_worse 9 rfl) rfl rfl h
  · have h := h.2 hc
    refine x_aload_n (tk K_X10_worse 4 rfl) rfl rfl ?_
    refine x_iload_n (tk K_X10_worse 5 rfl) rfl rfl ?_
    refine x_callV0 (As := [vI _]) (S := []) (tk K_X10_worse 6 rfl) mk_X10_261 mo_X10_protocolAt (TpS.o hT0) rfl rfl (Nat.le_of_ble_eq_true rfl) hd h (fun r M2 hq => ?_)
    obtain ⟨x2, rfl, hE, h⟩ := hq
    have hT1 := TpS.ext hT0 hE
    refine x_ifnonnull (t := 18) (tk K_X10_worse 7 rfl) rfl (fun hc => ?_) (fun hc => ?_)
    · have h := h.1 hc
      refine x_iconst (tk K_X10_worse 10 rfl) ic_0 ?_
      refine x_istore_n (L' := [some (vR _), some (vI _), some (vI _), some (vI _), none, none, none]) (tk K_X10_worse 11 rfl) rfl rfl (Nat.le_of_ble_eq_true rfl) rfl ?_
      refine x_iconst (tk K_X10_worse 12 rfl) ic_0 ?_
      refine x_istore (L' := [some (vR _), some (vI _), some (vI _), some (vI _), some (vI _), none, none]) (tk K_X10_worse 13 rfl) rfl (Nat.le_of_ble_eq_true rfl) rfl ?_
      exact h
    · have h := h.2 hc
      refine x_iconst (tk K_X10_worse 8 rfl) ic_m1 ?_
      exact x_ireturn (tk K_X10_worse 9 rfl) rfl rfl h

theorem b_X10_worse_23 {X : Cx} {d kc ns : Nat} {M : Mem} {Q : Option AV → Mem → Prop} {l1 : Int32} {l2 : Int32} {l3 : Int32} {l4 : Int32} (hS : TpS M) (hd : 1 ≤ d)
    (h : (((mI M 1 6) ≤ l4 → Q (some (vI l3)) M) ∧ (¬ (mI M 1 6) ≤ l4 → Cl X (d - 1) 0 0 m_X10_endOf [vR 1, vI l4, vI l1] M (fun r M1 => ∃ x1 : Int32, r = some (vI x1) ∧ Ext M M1 ∧ Cl X (d - 1) 0 0 m_X10_farOfEnd [vR 1, vI l4, vI x1] M1 (fun r M2 => ∃ x2 : Int32, r = some (vI x2) ∧ Ext M1 M2 ∧ Cl X (d - 1) 0 0 m_X10_endOf [vR 1, vI l4, vI l2] M2 (fun r M3 => ∃ x3 : Int32, r = some (vI x3) ∧ Ext M2 M3 ∧ Cl X (d - 1) 0 0 m_X10_farOfEnd [vR 1, vI l4, vI x3] M3 (fun r M4 => ∃ x4 : Int32, r = some (vI x4) ∧ Ext M3 M4 ∧ ((x4 = (-1) → WA X d kc ns m_X10_worse 23 [some (vR 1), some (vI l1), some (vI l2), some (vI l3), some (vI (l4 + (nI 1))), none, none] [] M4 Q) ∧ (¬ x4 = (-1) → ((x2 ≤ x4 → WA X d kc ns m_X10_worse 23 [some (vR 1), some (vI l1), some (vI l2), some (vI l3), some (vI (l4 + (nI 1))), none, none] [] M4 Q) ∧ (¬ x2 ≤ x4 → ∀ x5 : Int32, x5 = (l3 ||| (shl (nI 1) l4)) → WA X d kc ns m_X10_worse 23 [some (vR 1), some (vI l1), some (vI l2), some (vI x5), some (vI (l4 + (nI 1))), none, none] [] M4 Q))))))))))) :
    WA X d kc ns m_X10_worse 23 [some (vR 1), some (vI l1), some (vI l2), some (vI l3), some (vI l4), none, none] [] M Q := by
  refine x_iload (tk K_X10_worse 14 rfl) rfl ?_
  refine x_aload_n (tk K_X10_worse 15 rfl) rfl rfl ?_
  refine x_getI (tk K_X10_worse 16 rfl) f_X10_48 rfl (TpS.o hS) ?_
  refine x_icmp_ge (t := 88) (tk K_X10_worse 17 rfl) rfl (fun hc => ?_) (fun hc => ?_)
  · have h := h.1 hc
    refine x_iload_n (tk K_X10_worse 48 rfl) rfl rfl ?_
    exact x_ireturn (tk K_X10_worse 49 rfl) rfl rfl h
  · have h := h.2 hc
    refine x_aload_n (tk K_X10_worse 18 rfl) rfl rfl ?_
    refine x_iload (tk K_X10_worse 19 rfl) rfl ?_
    refine x_aload_n (tk K_X10_worse 20 rfl) rfl rfl ?_
    refine x_iload (tk K_X10_worse 21 rfl) rfl ?_
    refine x_iload_n (tk K_X10_worse 22 rfl) rfl rfl ?_
    refine x_callV0 (As := [vI _, vI _]) (S := [vI _, vR _]) (tk K_X10_worse 23 rfl) mk_X10_327 mo_X10_endOf (TpS.o hS) rfl rfl (Nat.le_of_ble_eq_true rfl) hd h (fun r M1 hq => ?_)
    obtain ⟨x1, rfl, hE, h⟩ := hq
    have hT0 := TpS.ext hS hE
    refine x_callV0 (As := [vI _, vI _]) (S := []) (tk K_X10_worse 24 rfl) mk_X10_330 mo_X10_farOfEnd (TpS.o hT0) rfl rfl (Nat.le_of_ble_eq_true rfl) hd h (fun r M2 hq => ?_)
    obtain ⟨x2, rfl, hE, h⟩ := hq
    have hT1 := TpS.ext hT0 hE
    refine x_istore (L' := [some (vR _), some (vI _), some (vI _), some (vI _), some (vI _), some (vI _), none]) (tk K_X10_worse 25 rfl) rfl (Nat.le_of_ble_eq_true rfl) rfl ?_
    refine x_aload_n (tk K_X10_worse 26 rfl) rfl rfl ?_
    refine x_iload (tk K_X10_worse 27 rfl) rfl ?_
    refine x_aload_n (tk K_X10_worse 28 rfl) rfl rfl ?_
    refine x_iload (tk K_X10_worse 29 rfl) rfl ?_
    refine x_iload_n (tk K_X10_worse 30 rfl) rfl rfl ?_
    refine x_callV0 (As := [vI _, vI _]) (S := [vI _, vR _]) (tk K_X10_worse 31 rfl) mk_X10_327 mo_X10_endOf (TpS.o hT1) rfl rfl (Nat.le_of_ble_eq_true rfl) hd h (fun r M3 hq => ?_)
    obtain ⟨x3, rfl, hE, h⟩ := hq
    have hT2 := TpS.ext hT1 hE
    refine x_callV0 (As := [vI _, vI _]) (S := []) (tk K_X10_worse 32 rfl) mk_X10_330 mo_X10_farOfEnd (TpS.o hT2) rfl rfl (Nat.le_of_ble_eq_true rfl) hd h (fun r M4 hq => ?_)
    obtain ⟨x4, rfl, hE, h⟩ := hq
    have hT3 := TpS.ext hT2 hE
    refine x_istore (L' := [some (vR _), some (vI _), some (vI _), some (vI _), some (vI _), some (vI _), some (vI _)]) (tk K_X10_worse 33 rfl) rfl (Nat.le_of_ble_eq_true rfl) rfl ?_
    refine x_iload (tk K_X10_worse 34 rfl) rfl ?_
    refine x_iconst (tk K_X10_worse 35 rfl) ic_m1 ?_
    refine x_icmp_eq (t := 82) (tk K_X10_worse 36 rfl) rfl (fun hc => ?_) (fun hc => ?_)
    · have h := h.1 hc
      refine x_iincW (L' := [some (vR _), some (vI _), some (vI _), some (vI _), some (vI _), some (vI _), some (vI _)]) (tk K_X10_worse 46 rfl) rfl ic_1 rfl (Nat.le_of_ble_eq_true rfl) rfl ?_
      refine x_goto (t := 23) (tk K_X10_worse 47 rfl) rfl ?_
      refine x_msk [true, true, true, true, true, false, false] ?_
      exact h
    · have h := h.2 hc
      refine x_iload (tk K_X10_worse 37 rfl) rfl ?_
      refine x_iload (tk K_X10_worse 38 rfl) rfl ?_
      refine x_icmp_le (t := 82) (tk K_X10_worse 39 rfl) rfl (fun hc => ?_) (fun hc => ?_)
      · have h := h.1 hc
        refine x_iincW (L' := [some (vR _), some (vI _), some (vI _), some (vI _), some (vI _), some (vI _), some (vI _)]) (tk K_X10_worse 46 rfl) rfl ic_1 rfl (Nat.le_of_ble_eq_true rfl) rfl ?_
        refine x_goto (t := 23) (tk K_X10_worse 47 rfl) rfl ?_
        refine x_msk [true, true, true, true, true, false, false] ?_
        exact h
      · have h := h.2 hc
        refine x_iload_n (tk K_X10_worse 40 rfl) rfl rfl ?_
        refine x_iconst (tk K_X10_worse 41 rfl) ic_1 ?_
        refine x_iload (tk K_X10_worse 42 rfl) rfl ?_
        refine x_ishl (tk K_X10_worse 43 rfl) ?_
        refine x_ior (tk K_X10_worse 44 rfl) ?_
        have h := h _ rfl
        refine x_istore_n (L' := [some (vR _), some (vI _), some (vI _), some (vI _), some (vI _), some (vI _), some (vI _)]) (tk K_X10_worse 45 rfl) rfl rfl (Nat.le_of_ble_eq_true rfl) rfl ?_
        refine x_iincW (L' := [some (vR _), some (vI _), some (vI _), some (vI _), some (vI _), some (vI _), some (vI _)]) (tk K_X10_worse 46 rfl) rfl ic_1 rfl (Nat.le_of_ble_eq_true rfl) rfl ?_
        refine x_goto (t := 23) (tk K_X10_worse 47 rfl) rfl ?_
        refine x_msk [true, true, true, true, true, false, false] ?_
        exact h

theorem e_X10_worse {X : Cx} {d kc ns : Nat} {M : Mem} {Q : Option AV → Mem → Prop} {a1 : Int32} {a2 : Int32} (h : WA X d kc ns m_X10_worse 0 [some (vR 1), some (vI a1), some (vI a2), none, none, none, none] [] M Q) : Cl X d kc ns m_X10_worse [vR 1, vI a1, vI a2] M Q := Cl.intro (k := 4) (by decide) rfl rfl h

-- TwoPencils.count(I)I
theorem b_X10_count_0 {X : Cx} {d kc ns : Nat} {M : Mem} {Q : Option AV → Mem → Prop} {l1 : Int32} (hS : TpS M) (hd : 1 ≤ d)
    (h : (((l1.toInt < 0 ∨ 4 < l1.toInt) → Q (some (vI (-1))) M) ∧ (l1.toInt = 0 → Q (some (vI (mI M 1 6))) M) ∧ (l1.toInt = 1 → Q (some (vI (mI M 1 7))) M) ∧ (l1.toInt = 2 → Q (some (vI (mI M 1 8))) M) ∧ (l1.toInt = 3 → Cl X (d - 1) 0 0 m_X10_gamesOver [vR 1] M (fun r M1 => ∃ x1 : Int32, r = some (vI x1) ∧ Ext M M1 ∧ Q (some (vI x1)) M1)) ∧ (l1.toInt = 4 → Q (some (vI (mI M 2 1))) M))) :
    WA X d kc ns m_X10_count 0 [some (vR 1), some (vI l1)] [] M Q := by
  refine x_iload_n (tk K_X10_count 0 rfl) rfl rfl ?_
  refine x_table (td := 64) (tk K_X10_count 1 rfl) rfl (fun hc => ?_) (fun k hk hk2 => ?_)
  · have h := h.1 hc
    refine x_iconst (tk K_X10_count 18 rfl) ic_m1 ?_
    exact x_ireturn (tk K_X10_count 19 rfl) rfl rfl h
  · rcases (show k = 0 ∨ k = 1 ∨ k = 2 ∨ k = 3 ∨ k = 4 by omega) with rfl | rfl | rfl | rfl | rfl
    · refine ⟨35, 36, rfl, rfl, ?_⟩
      have h := h.2.1 (by omega)
      refine x_aload_n (tk K_X10_count 2 rfl) rfl rfl ?_
      refine x_getI (tk K_X10_count 3 rfl) f_X10_48 rfl (TpS.o hS) ?_
      exact x_ireturn (tk K_X10_count 4 rfl) rfl rfl h
    · refine ⟨40, 41, rfl, rfl, ?_⟩
      have h := h.2.2.1 (by omega)
      refine x_aload_n (tk K_X10_count 5 rfl) rfl rfl ?_
      refine x_getI (tk K_X10_count 6 rfl) f_X10_52 rfl (TpS.o hS) ?_
      exact x_ireturn (tk K_X10_count 7 rfl) rfl rfl h
    · refine ⟨45, 46, rfl, rfl, ?_⟩
      have h := h.2.2.2.1 (by omega)
      refine x_aload_n (tk K_X10_count 8 rfl) rfl rfl ?_
      refine x_getI (tk K_X10_count 9 rfl) f_X10_55 rfl (TpS.o hS) ?_
      exact x_ireturn (tk K_X10_count 10 rfl) rfl rfl h
    · refine ⟨50, 51, rfl, rfl, ?_⟩
      have h := h.2.2.2.2.1 (by omega)
      refine x_aload_n (tk K_X10_count 11 rfl) rfl rfl ?_
      refine x_callV0 (As := []) (S := []) (tk K_X10_count 12 rfl) mk_X10_333 mo_X10_gamesOver (TpS.o hS) rfl rfl (Nat.le_of_ble_eq_true rfl) hd h (fun r M1 hq => ?_)
      obtain ⟨x1, rfl, hE, h⟩ := hq
      have hT0 := TpS.ext hS hE
      exact x_ireturn (tk K_X10_count 13 rfl) rfl rfl h
    · refine ⟨55, 56, rfl, rfl, ?_⟩
      have h := h.2.2.2.2.2 (by omega)
      refine x_aload_n (tk K_X10_count 14 rfl) rfl rfl ?_
      refine x_getRc (tk K_X10_count 15 rfl) f_X10_10 rfl (TpS.o hS) (TpS.r0 hS) ?_
      refine x_getI (tk K_X10_count 16 rfl) f_X10_124 rfl (TaS.o (TpS.k0 hS)) ?_
      exact x_ireturn (tk K_X10_count 17 rfl) rfl rfl h

theorem e_X10_count {X : Cx} {d kc ns : Nat} {M : Mem} {Q : Option AV → Mem → Prop} {a1 : Int32} (h : WA X d kc ns m_X10_count 0 [some (vR 1), some (vI a1)] [] M Q) : Cl X d kc ns m_X10_count [vR 1, vI a1] M Q := Cl.intro (k := 0) (by decide) rfl rfl h

-- TwoPencils.isParty(I)Z
theorem b_X10_isParty_0 {X : Cx} {d kc ns : Nat} {M : Mem} {Q : Option AV → Mem → Prop} {l0 : Int32}
    (h : ((l0 < nI 0 → Q (some (vI (nI 0))) M) ∧ (¬ l0 < nI 0 → (((nI 3) ≤ l0 → Q (some (vI (nI 0))) M) ∧ (¬ (nI 3) ≤ l0 → Q (some (vI (nI 1))) M))))) :
    WA X d kc ns m_X10_isParty 0 [some (vI l0)] [] M Q := by
  refine x_iload_n (tk K_X10_isParty 0 rfl) rfl rfl ?_
  refine x_if_lt (t := 13) (tk K_X10_isParty 1 rfl) rfl (fun hc => ?_) (fun hc => ?_)
  · have h := h.1 hc
    refine x_iconst (tk K_X10_isParty 7 rfl) ic_0 ?_
    exact x_ireturn (tk K_X10_isParty 8 rfl) rfl (fitZ (Or.inl rfl)).1 h
  · have h := h.2 hc
    refine x_iload_n (tk K_X10_isParty 2 rfl) rfl rfl ?_
    refine x_iconst (tk K_X10_isParty 3 rfl) ic_3 ?_
    refine x_icmp_ge (t := 13) (tk K_X10_isParty 4 rfl) rfl (fun hc => ?_) (fun hc => ?_)
    · have h := h.1 hc
      refine x_iconst (tk K_X10_isParty 7 rfl) ic_0 ?_
      exact x_ireturn (tk K_X10_isParty 8 rfl) rfl (fitZ (Or.inl rfl)).1 h
    · have h := h.2 hc
      refine x_iconst (tk K_X10_isParty 5 rfl) ic_1 ?_
      refine x_goto (t := 14) (tk K_X10_isParty 6 rfl) rfl ?_
      exact x_ireturn (tk K_X10_isParty 8 rfl) rfl (fitZ (Or.inr rfl)).1 h

theorem e_X10_isParty {X : Cx} {d kc ns : Nat} {M : Mem} {Q : Option AV → Mem → Prop} {a0 : Int32} (h : WA X d kc ns m_X10_isParty 0 [some (vI a0)] [] M Q) : Cl X d kc ns m_X10_isParty [vI a0] M Q := Cl.intro (k := 0) (by decide) rfl rfl h

-- TwoPencils.isGoal(I)Z
theorem b_X10_isGoal_0 {X : Cx} {d kc ns : Nat} {M : Mem} {Q : Option AV → Mem → Prop} {l0 : Int32}
    (h : ((l0 < nI 0 → Q (some (vI (nI 0))) M) ∧ (¬ l0 < nI 0 → (((nI 3) ≤ l0 → Q (some (vI (nI 0))) M) ∧ (¬ (nI 3) ≤ l0 → Q (some (vI (nI 1))) M))))) :
    WA X d kc ns m_X10_isGoal 0 [some (vI l0)] [] M Q := by
  refine x_iload_n (tk K_X10_isGoal 0 rfl) rfl rfl ?_
  refine x_if_lt (t := 13) (tk K_X10_isGoal 1 rfl) rfl (fun hc => ?_) (fun hc => ?_)
  · have h := h.1 hc
    refine x_iconst (tk K_X10_isGoal 7 rfl) ic_0 ?_
    exact x_ireturn (tk K_X10_isGoal 8 rfl) rfl (fitZ (Or.inl rfl)).1 h
  · have h := h.2 hc
    refine x_iload_n (tk K_X10_isGoal 2 rfl) rfl rfl ?_
    refine x_iconst (tk K_X10_isGoal 3 rfl) ic_3 ?_
    refine x_icmp_ge (t := 13) (tk K_X10_isGoal 4 rfl) rfl (fun hc => ?_) (fun hc => ?_)
    · have h := h.1 hc
      refine x_iconst (tk K_X10_isGoal 7 rfl) ic_0 ?_
      exact x_ireturn (tk K_X10_isGoal 8 rfl) rfl (fitZ (Or.inl rfl)).1 h
    · have h := h.2 hc
      refine x_iconst (tk K_X10_isGoal 5 rfl) ic_1 ?_
      refine x_goto (t := 14) (tk K_X10_isGoal 6 rfl) rfl ?_
      exact x_ireturn (tk K_X10_isGoal 8 rfl) rfl (fitZ (Or.inr rfl)).1 h

theorem e_X10_isGoal {X : Cx} {d kc ns : Nat} {M : Mem} {Q : Option AV → Mem → Prop} {a0 : Int32} (h : WA X d kc ns m_X10_isGoal 0 [some (vI a0)] [] M Q) : Cl X d kc ns m_X10_isGoal [vI a0] M Q := Cl.intro (k := 0) (by decide) rfl rfl h

-- TwoPencils.asGoal(II)I
theorem b_X10_asGoal_0 {X : Cx} {d kc ns : Nat} {M : Mem} {Q : Option AV → Mem → Prop} {l0 : Int32} {l1 : Int32}
    (h : ((¬ l0 = (nI 2) → Q (some (vI l1)) M) ∧ (l0 = (nI 2) → Q (some (vI (-l1))) M))) :
    WA X d kc ns m_X10_asGoal 0 [some (vI l0), some (vI l1)] [] M Q := by
  refine x_iload_n (tk K_X10_asGoal 0 rfl) rfl rfl ?_
  refine x_iconst (tk K_X10_asGoal 1 rfl) ic_2 ?_
  refine x_icmp_ne (t := 10) (tk K_X10_asGoal 2 rfl) rfl (fun hc => ?_) (fun hc => ?_)
  · have h := h.1 hc
    refine x_iload_n (tk K_X10_asGoal 6 rfl) rfl rfl ?_
    exact x_ireturn (tk K_X10_asGoal 7 rfl) rfl rfl h
  · have h := h.2 hc
    refine x_iload_n (tk K_X10_asGoal 3 rfl) rfl rfl ?_
    refine x_ineg (tk K_X10_asGoal 4 rfl) ?_
    refine x_goto (t := 11) (tk K_X10_asGoal 5 rfl) rfl ?_
    exact x_ireturn (tk K_X10_asGoal 7 rfl) rfl rfl h

theorem e_X10_asGoal {X : Cx} {d kc ns : Nat} {M : Mem} {Q : Option AV → Mem → Prop} {a0 : Int32} {a1 : Int32} (h : WA X d kc ns m_X10_asGoal 0 [some (vI a0), some (vI a1)] [] M Q) : Cl X d kc ns m_X10_asGoal [vI a0, vI a1] M Q := Cl.intro (k := 0) (by decide) rfl rfl h

-- TwoPencils.commonPart(II)I
theorem b_X10_commonPart_0 {X : Cx} {d kc ns : Nat} {M : Mem} {Q : Option AV → Mem → Prop} {l0 : Int32} {l1 : Int32}
    (h : WA X d kc ns m_X10_commonPart 7 [none, none, some (vI l1), some (vI l0), some (vI (nI 0)), none] [] M Q) :
    WA X d kc ns m_X10_commonPart 0 [some (vI l0), some (vI l1), none, none, none, none] [] M Q := by
  refine x_iload_n (tk K_X10_commonPart 0 rfl) rfl rfl ?_
  refine x_istore_n (L' := [some (vI _), some (vI _), some (vI _), none, none, none]) (tk K_X10_commonPart 1 rfl) rfl rfl (Nat.le_of_ble_eq_true rfl) rfl ?_
  refine x_iload_n (tk K_X10_commonPart 2 rfl) rfl rfl ?_
  refine x_istore_n (L' := [some (vI _), some (vI _), some (vI _), some (vI _), none, none]) (tk K_X10_commonPart 3 rfl) rfl rfl (Nat.le_of_ble_eq_true rfl) rfl ?_
  refine x_iconst (tk K_X10_commonPart 4 rfl) ic_0 ?_
  refine x_istore (L' := [some (vI _), some (vI _), some (vI _), some (vI _), some (vI _), none]) (tk K_X10_commonPart 5 rfl) rfl (Nat.le_of_ble_eq_true rfl) rfl ?_
  refine x_msk [false, false, true, true, true, false] ?_
  exact h

theorem b_X10_commonPart_7 {X : Cx} {d kc ns : Nat} {M : Mem} {Q : Option AV → Mem → Prop} {l2 : Int32} {l3 : Int32} {l4 : Int32}
    (h : (((nI 1000000) ≤ l4 → Q (some (vI l2)) M) ∧ (¬ (nI 1000000) ≤ l4 → ((l3 ≤ nI 0 → Q (some (vI l2)) M) ∧ (¬ l3 ≤ nI 0 → ¬ l3 = nI 0 ∧ ∀ x1 : Int32, x1 = (remI l2 l3) → WA X d kc ns m_X10_commonPart 7 [none, none, some (vI l3), some (vI x1), some (vI (l4 + (nI 1))), none] [] M Q))))) :
    WA X d kc ns m_X10_commonPart 7 [none, none, some (vI l2), some (vI l3), some (vI l4), none] [] M Q := by
  refine x_iload (tk K_X10_commonPart 6 rfl) rfl ?_
  refine x_ldcw (tk K_X10_commonPart 7 rfl) kc_X10_336 ?_
  refine x_icmp_ge (t := 35) (tk K_X10_commonPart 8 rfl) rfl (fun hc => ?_) (fun hc => ?_)
  · have h := h.1 hc
    refine x_iload_n (tk K_X10_commonPart 21 rfl) rfl rfl ?_
    exact x_ireturn (tk K_X10_commonPart 22 rfl) rfl rfl h
  · have h := h.2 hc
    refine x_iload_n (tk K_X10_commonPart 9 rfl) rfl rfl ?_
    refine x_if_le (t := 35) (tk K_X10_commonPart 10 rfl) rfl (fun hc => ?_) (fun hc => ?_)
    · have h := h.1 hc
      refine x_iload_n (tk K_X10_commonPart 21 rfl) rfl rfl ?_
      exact x_ireturn (tk K_X10_commonPart 22 rfl) rfl rfl h
    · have h := h.2 hc
      refine x_iload_n (tk K_X10_commonPart 11 rfl) rfl rfl ?_
      refine x_iload_n (tk K_X10_commonPart 12 rfl) rfl rfl ?_
      refine x_iremR (tk K_X10_commonPart 13 rfl) h.1 ?_
      have h := h.2
      have h := h _ rfl
      refine x_istore (L' := [none, none, some (vI _), some (vI _), some (vI _), some (vI _)]) (tk K_X10_commonPart 14 rfl) rfl (Nat.le_of_ble_eq_true rfl) rfl ?_
      refine x_iload_n (tk K_X10_commonPart 15 rfl) rfl rfl ?_
      refine x_istore_n (L' := [none, none, some (vI _), some (vI _), some (vI _), some (vI _)]) (tk K_X10_commonPart 16 rfl) rfl rfl (Nat.le_of_ble_eq_true rfl) rfl ?_
      refine x_iload (tk K_X10_commonPart 17 rfl) rfl ?_
      refine x_istore_n (L' := [none, none, some (vI _), some (vI _), some (vI _), some (vI _)]) (tk K_X10_commonPart 18 rfl) rfl rfl (Nat.le_of_ble_eq_true rfl) rfl ?_
      refine x_iincW (L' := [none, none, some (vI _), some (vI _), some (vI _), some (vI _)]) (tk K_X10_commonPart 19 rfl) rfl ic_1 rfl (Nat.le_of_ble_eq_true rfl) rfl ?_
      refine x_goto (t := 7) (tk K_X10_commonPart 20 rfl) rfl ?_
      refine x_msk [false, false, true, true, true, false] ?_
      exact h

theorem e_X10_commonPart {X : Cx} {d kc ns : Nat} {M : Mem} {Q : Option AV → Mem → Prop} {a0 : Int32} {a1 : Int32} (h : WA X d kc ns m_X10_commonPart 0 [some (vI a0), some (vI a1), none, none, none, none] [] M Q) : Cl X d kc ns m_X10_commonPart [vI a0, vI a1] M Q := Cl.intro (k := 4) (by decide) rfl rfl h

-- TwoPencils.landAt(I)LTwoPencils$Land;
theorem b_X10_landAt_0 {X : Cx} {d kc ns : Nat} {M : Mem} {Q : Option AV → Mem → Prop} {l1 : Int32} (hS : TpS M)
    (h : ((l1 < nI 0 → Q (some (vR 0)) M) ∧ (¬ l1 < nI 0 → (((mI M 1 6) ≤ l1 → Q (some (vR 0)) M) ∧ (¬ (mI M 1 6) ≤ l1 → vp_in l1 6 ∧ Q (some (vR (mR M 11 (ix l1)))) M))))) :
    WA X d kc ns m_X10_landAt 0 [some (vR 1), some (vI l1)] [] M Q := by
  refine x_iload_n (tk K_X10_landAt 0 rfl) rfl rfl ?_
  refine x_if_lt (t := 21) (tk K_X10_landAt 1 rfl) rfl (fun hc => ?_) (fun hc => ?_)
  · have h := h.1 hc
    refine x_null (tk K_X10_landAt 11 rfl) ?_
    exact x_areturn (tk K_X10_landAt 12 rfl) rfl (Or.inl ⟨_, rfl⟩) h
  · have h := h.2 hc
    refine x_iload_n (tk K_X10_landAt 2 rfl) rfl rfl ?_
    refine x_aload_n (tk K_X10_landAt 3 rfl) rfl rfl ?_
    refine x_getI (tk K_X10_landAt 4 rfl) f_X10_48 rfl (TpS.o hS) ?_
    refine x_icmp_ge (t := 21) (tk K_X10_landAt 5 rfl) rfl (fun hc => ?_) (fun hc => ?_)
    · have h := h.1 hc
      refine x_null (tk K_X10_landAt 11 rfl) ?_
      exact x_areturn (tk K_X10_landAt 12 rfl) rfl (Or.inl ⟨_, rfl⟩) h
    · have h := h.2 hc
      refine x_aload_n (tk K_X10_landAt 6 rfl) rfl rfl ?_
      refine x_getRc (tk K_X10_landAt 7 rfl) f_X10_32 rfl (TpS.o hS) (TpS.r3 hS) ?_
      refine x_iload_n (tk K_X10_landAt 8 rfl) rfl rfl ?_
      have hi := h.1
      have h := h.2
      refine x_aald18 (tk K_X10_landAt 9 rfl) (TpS.k3 hS) hi ?_
      refine x_goto (t := 22) (tk K_X10_landAt 10 rfl) rfl ?_
      exact x_areturn (tk K_X10_landAt 12 rfl) rfl (Or.inl ⟨_, rfl⟩) h

theorem e_X10_landAt {X : Cx} {d kc ns : Nat} {M : Mem} {Q : Option AV → Mem → Prop} {a1 : Int32} (h : WA X d kc ns m_X10_landAt 0 [some (vR 1), some (vI a1)] [] M Q) : Cl X d kc ns m_X10_landAt [vR 1, vI a1] M Q := Cl.intro (k := 0) (by decide) rfl rfl h

-- TwoPencils.protocolAt(I)LTwoPencils$Protocol;
theorem b_X10_protocolAt_0 {X : Cx} {d kc ns : Nat} {M : Mem} {Q : Option AV → Mem → Prop} {l1 : Int32} (hS : TpS M)
    (h : ((l1 < nI 0 → Q (some (vR 0)) M) ∧ (¬ l1 < nI 0 → (((mI M 1 7) ≤ l1 → Q (some (vR 0)) M) ∧ (¬ (mI M 1 7) ≤ l1 → vp_in l1 8 ∧ Q (some (vR (mR M 12 (ix l1)))) M))))) :
    WA X d kc ns m_X10_protocolAt 0 [some (vR 1), some (vI l1)] [] M Q := by
  refine x_iload_n (tk K_X10_protocolAt 0 rfl) rfl rfl ?_
  refine x_if_lt (t := 21) (tk K_X10_protocolAt 1 rfl) rfl (fun hc => ?_) (fun hc => ?_)
  · have h := h.1 hc
    refine x_null (tk K_X10_protocolAt 11 rfl) ?_
    exact x_areturn (tk K_X10_protocolAt 12 rfl) rfl (Or.inl ⟨_, rfl⟩) h
  · have h := h.2 hc
    refine x_iload_n (tk K_X10_protocolAt 2 rfl) rfl rfl ?_
    refine x_aload_n (tk K_X10_protocolAt 3 rfl) rfl rfl ?_
    refine x_getI (tk K_X10_protocolAt 4 rfl) f_X10_52 rfl (TpS.o hS) ?_
    refine x_icmp_ge (t := 21) (tk K_X10_protocolAt 5 rfl) rfl (fun hc => ?_) (fun hc => ?_)
    · have h := h.1 hc
      refine x_null (tk K_X10_protocolAt 11 rfl) ?_
      exact x_areturn (tk K_X10_protocolAt 12 rfl) rfl (Or.inl ⟨_, rfl⟩) h
    · have h := h.2 hc
      refine x_aload_n (tk K_X10_protocolAt 6 rfl) rfl rfl ?_
      refine x_getRc (tk K_X10_protocolAt 7 rfl) f_X10_38 rfl (TpS.o hS) (TpS.r4 hS) ?_
      refine x_iload_n (tk K_X10_protocolAt 8 rfl) rfl rfl ?_
      have hi := h.1
      have h := h.2
      refine x_aald19 (tk K_X10_protocolAt 9 rfl) (TpS.k4 hS) hi ?_
      refine x_goto (t := 22) (tk K_X10_protocolAt 10 rfl) rfl ?_
      exact x_areturn (tk K_X10_protocolAt 12 rfl) rfl (Or.inl ⟨_, rfl⟩) h

theorem e_X10_protocolAt {X : Cx} {d kc ns : Nat} {M : Mem} {Q : Option AV → Mem → Prop} {a1 : Int32} (h : WA X d kc ns m_X10_protocolAt 0 [some (vR 1), some (vI a1)] [] M Q) : Cl X d kc ns m_X10_protocolAt [vR 1, vI a1] M Q := Cl.intro (k := 0) (by decide) rfl rfl h

-- TwoPencils.gameAt(I)LTwoPencils$Game;
theorem b_X10_gameAt_0 {X : Cx} {d kc ns : Nat} {M : Mem} {Q : Option AV → Mem → Prop} {l1 : Int32} (hS : TpS M)
    (h : ((l1 < nI 0 → Q (some (vR 0)) M) ∧ (¬ l1 < nI 0 → (((mI M 1 8) ≤ l1 → Q (some (vR 0)) M) ∧ (¬ (mI M 1 8) ≤ l1 → vp_in l1 8 ∧ Q (some (vR (mR M 13 (ix l1)))) M))))) :
    WA X d kc ns m_X10_gameAt 0 [some (vR 1), some (vI l1)] [] M Q := by
  refine x_iload_n (tk K_X10_gameAt 0 rfl) rfl rfl ?_
  refine x_if_lt (t := 21) (tk K_X10_gameAt 1 rfl) rfl (fun hc => ?_) (fun hc => ?_)
  · have h := h.1 hc
    refine x_null (tk K_X10_gameAt 11 rfl) ?_
    exact x_areturn (tk K_X10_gameAt 12 rfl) rfl (Or.inl ⟨_, rfl⟩) h
  · have h := h.2 hc
    refine x_iload_n (tk K_X10_gameAt 2 rfl) rfl rfl ?_
    refine x_aload_n (tk K_X10_gameAt 3 rfl) rfl rfl ?_
    refine x_getI (tk K_X10_gameAt 4 rfl) f_X10_55 rfl (TpS.o hS) ?_
    refine x_icmp_ge (t := 21) (tk K_X10_gameAt 5 rfl) rfl (fun hc => ?_) (fun hc => ?_)
    · have h := h.1 hc
      refine x_null (tk K_X10_gameAt 11 rfl) ?_
      exact x_areturn (tk K_X10_gameAt 12 rfl) rfl (Or.inl ⟨_, rfl⟩) h
    · have h := h.2 hc
      refine x_aload_n (tk K_X10_gameAt 6 rfl) rfl rfl ?_
      refine x_getRc (tk K_X10_gameAt 7 rfl) f_X10_44 rfl (TpS.o hS) (TpS.r5 hS) ?_
      refine x_iload_n (tk K_X10_gameAt 8 rfl) rfl rfl ?_
      have hi := h.1
      have h := h.2
      refine x_aald17 (tk K_X10_gameAt 9 rfl) (TpS.k5 hS) hi ?_
      refine x_goto (t := 22) (tk K_X10_gameAt 10 rfl) rfl ?_
      exact x_areturn (tk K_X10_gameAt 12 rfl) rfl (Or.inl ⟨_, rfl⟩) h

theorem e_X10_gameAt {X : Cx} {d kc ns : Nat} {M : Mem} {Q : Option AV → Mem → Prop} {a1 : Int32} (h : WA X d kc ns m_X10_gameAt 0 [some (vR 1), some (vI a1)] [] M Q) : Cl X d kc ns m_X10_gameAt [vR 1, vI a1] M Q := Cl.intro (k := 0) (by decide) rfl rfl h

-- TwoPencils.readyLand(I)LTwoPencils$Land;
theorem b_X10_readyLand_0 {X : Cx} {d kc ns : Nat} {M : Mem} {Q : Option AV → Mem → Prop} {l1 : Int32} (hS : TpS M) (hd : 1 ≤ d)
    (h : Cl X (d - 1) 0 0 m_X10_landAt [vR 1, vI l1] M (fun r M1 => ∃ x1 : Nat, r = some (vR x1) ∧ Ext M M1 ∧ ((x1 = 0 → Q (some (vR x1)) M1) ∧ (¬ x1 = 0 → LaS M1 x1 ∧ (((mI M1 x1 14) = nI 0 → Q (some (vR x1)) M1) ∧ (¬ (mI M1 x1 14) = nI 0 → Cl X (d - 1) 0 0 m_X3_refresh [vR x1] M1 (fun r M2 => r = none ∧ Ext M1 M2 ∧ Q (some (vR x1)) M2))))))) :
    WA X d kc ns m_X10_readyLand 0 [some (vR 1), some (vI l1), none] [] M Q := by
  refine x_aload_n (tk K_X10_readyLand 0 rfl) rfl rfl ?_
  refine x_iload_n (tk K_X10_readyLand 1 rfl) rfl rfl ?_
  refine x_callV0 (As := [vI _]) (S := []) (tk K_X10_readyLand 2 rfl) mk_X10_136 mo_X10_landAt (TpS.o hS) rfl rfl (Nat.le_of_ble_eq_true rfl) hd h (fun r M1 hq => ?_)
  obtain ⟨x1, rfl, hE, h⟩ := hq
  have hT0 := TpS.ext hS hE
  refine x_astore_n (L' := [some (vR _), some (vI _), some (vR _)]) (tk K_X10_readyLand 3 rfl) rfl rfl (Nat.le_of_ble_eq_true rfl) rfl ?_
  refine x_aload_n (tk K_X10_readyLand 4 rfl) rfl rfl ?_
  refine x_ifnull (t := 21) (tk K_X10_readyLand 5 rfl) rfl (fun hc => ?_) (fun hc => ?_)
  · have h := h.1 hc
    refine x_aload_n (tk K_X10_readyLand 11 rfl) rfl rfl ?_
    exact x_areturn (tk K_X10_readyLand 12 rfl) rfl (Or.inl ⟨_, rfl⟩) h
  · have h := h.2 hc
    refine x_aload_n (tk K_X10_readyLand 6 rfl) rfl rfl ?_
    have hS_2 := h.1
    have h := h.2
    refine x_getI (tk K_X10_readyLand 7 rfl) f_X10_175 rfl (LaS.o hS_2) ?_
    refine x_if_eq (t := 21) (tk K_X10_readyLand 8 rfl) rfl (fun hc => ?_) (fun hc => ?_)
    · have h := h.1 hc
      refine x_aload_n (tk K_X10_readyLand 11 rfl) rfl rfl ?_
      exact x_areturn (tk K_X10_readyLand 12 rfl) rfl (Or.inl ⟨_, rfl⟩) h
    · have h := h.2 hc
      refine x_aload_n (tk K_X10_readyLand 9 rfl) rfl rfl ?_
      refine x_callV0 (As := []) (S := []) (tk K_X10_readyLand 10 rfl) mk_X10_337 mo_X3_refresh (LaS.o hS_2) rfl rfl (Nat.le_of_ble_eq_true rfl) hd h (fun r M2 hq => ?_)
      obtain ⟨rfl, hE, h⟩ := hq
      have hT1 := TpS.ext hT0 hE
      have hT2 := LaS.ext hS_2 hE
      refine x_aload_n (tk K_X10_readyLand 11 rfl) rfl rfl ?_
      exact x_areturn (tk K_X10_readyLand 12 rfl) rfl (Or.inl ⟨_, rfl⟩) h

theorem e_X10_readyLand {X : Cx} {d kc ns : Nat} {M : Mem} {Q : Option AV → Mem → Prop} {a1 : Int32} (h : WA X d kc ns m_X10_readyLand 0 [some (vR 1), some (vI a1), none] [] M Q) : Cl X d kc ns m_X10_readyLand [vR 1, vI a1] M Q := Cl.intro (k := 1) (by decide) rfl rfl h

-- TwoPencils.landWithLawful(II)LTwoPencils$Land;
theorem b_X10_landWithLawful_0 {X : Cx} {d kc ns : Nat} {M : Mem} {Q : Option AV → Mem → Prop} {l1 : Int32} {l2 : Int32} (hS : TpS M) (hd : 1 ≤ d)
    (h : Cl X (d - 1) 0 0 m_X10_readyLand [vR 1, vI l1] M (fun r M1 => ∃ x1 : Nat, r = some (vR x1) ∧ Ext M M1 ∧ ((x1 = 0 → Q (some (vR 0)) M1) ∧ (¬ x1 = 0 → LaS M1 x1 ∧ Cl X (d - 1) 0 0 m_X3_judged [vR x1, vI l2, vR 73] M1 (fun r M2 => ∃ x2 : Int32, r = some (vI x2) ∧ Ext M1 M2 ∧ ((¬ x2 = nI 0 → Q (some (vR 0)) M2) ∧ (x2 = nI 0 → Q (some (vR x1)) M2))))))) :
    WA X d kc ns m_X10_landWithLawful 0 [some (vR 1), some (vI l1), some (vI l2), none] [] M Q := by
  refine x_aload_n (tk K_X10_landWithLawful 0 rfl) rfl rfl ?_
  refine x_iload_n (tk K_X10_landWithLawful 1 rfl) rfl rfl ?_
  refine x_callV0 (As := [vI _]) (S := []) (tk K_X10_landWithLawful 2 rfl) mk_X10_184 mo_X10_readyLand (TpS.o hS) rfl rfl (Nat.le_of_ble_eq_true rfl) hd h (fun r M1 hq => ?_)
  obtain ⟨x1, rfl, hE, h⟩ := hq
  have hT0 := TpS.ext hS hE
  refine x_astore_n (L' := [some (vR _), some (vI _), some (vI _), some (vR _)]) (tk K_X10_landWithLawful 3 rfl) rfl rfl (Nat.le_of_ble_eq_true rfl) rfl ?_
  refine x_aload_n (tk K_X10_landWithLawful 4 rfl) rfl rfl ?_
  refine x_ifnull (t := 26) (tk K_X10_landWithLawful 5 rfl) rfl (fun hc => ?_) (fun hc => ?_)
  · have h := h.1 hc
    refine x_null (tk K_X10_landWithLawful 14 rfl) ?_
    exact x_areturn (tk K_X10_landWithLawful 15 rfl) rfl (Or.inl ⟨_, rfl⟩) h
  · have h := h.2 hc
    refine x_aload_n (tk K_X10_landWithLawful 6 rfl) rfl rfl ?_
    refine x_iload_n (tk K_X10_landWithLawful 7 rfl) rfl rfl ?_
    refine x_aload_n (tk K_X10_landWithLawful 8 rfl) rfl rfl ?_
    refine x_getRc (tk K_X10_landWithLawful 9 rfl) f_X10_108 rfl (TpS.o hT0) (TpS.r16 hT0) ?_
    have hS_2 := h.1
    have h := h.2
    refine x_callV0 (As := [vI _, vR _]) (S := []) (tk K_X10_landWithLawful 10 rfl) mk_X10_187 mo_X3_judged (LaS.o hS_2) rfl rfl (Nat.le_of_ble_eq_true rfl) hd h (fun r M2 hq => ?_)
    obtain ⟨x2, rfl, hE, h⟩ := hq
    have hT1 := TpS.ext hT0 hE
    have hT2 := LaS.ext hS_2 hE
    have hT3 := hE.1 _ _ _ (TpS.k16 hT0)
    refine x_if_ne (t := 26) (tk K_X10_landWithLawful 11 rfl) rfl (fun hc => ?_) (fun hc => ?_)
    · have h := h.1 hc
      refine x_null (tk K_X10_landWithLawful 14 rfl) ?_
      exact x_areturn (tk K_X10_landWithLawful 15 rfl) rfl (Or.inl ⟨_, rfl⟩) h
    · have h := h.2 hc
      refine x_aload_n (tk K_X10_landWithLawful 12 rfl) rfl rfl ?_
      refine x_goto (t := 27) (tk K_X10_landWithLawful 13 rfl) rfl ?_
      exact x_areturn (tk K_X10_landWithLawful 15 rfl) rfl (Or.inl ⟨_, rfl⟩) h

theorem e_X10_landWithLawful {X : Cx} {d kc ns : Nat} {M : Mem} {Q : Option AV → Mem → Prop} {a1 : Int32} {a2 : Int32} (h : WA X d kc ns m_X10_landWithLawful 0 [some (vR 1), some (vI a1), some (vI a2), none] [] M Q) : Cl X d kc ns m_X10_landWithLawful [vR 1, vI a1, vI a2] M Q := Cl.intro (k := 1) (by decide) rfl rfl h

-- TwoPencils.gamesOver()I
theorem b_X10_gamesOver_0 {X : Cx} {d kc ns : Nat} {M : Mem} {Q : Option AV → Mem → Prop} (hS : TpS M)
    (h : WA X d kc ns m_X10_gamesOver 4 [some (vR 1), some (vI (nI 0)), some (vI (nI 0)), none] [] M Q) :
    WA X d kc ns m_X10_gamesOver 0 [some (vR 1), none, none, none] [] M Q := by
  refine x_iconst (tk K_X10_gamesOver 0 rfl) ic_0 ?_
  refine x_istore_n (L' := [some (vR _), some (vI _), none, none]) (tk K_X10_gamesOver 1 rfl) rfl rfl (Nat.le_of_ble_eq_true rfl) rfl ?_
  refine x_iconst (tk K_X10_gamesOver 2 rfl) ic_0 ?_
  refine x_istore_n (L' := [some (vR _), some (vI _), some (vI _), none]) (tk K_X10_gamesOver 3 rfl) rfl rfl (Nat.le_of_ble_eq_true rfl) rfl ?_
  exact h

theorem b_X10_gamesOver_4 {X : Cx} {d kc ns : Nat} {M : Mem} {Q : Option AV → Mem → Prop} {l1 : Int32} {l2 : Int32} (hS : TpS M) (hd : 1 ≤ d)
    (h : (((mI M 1 8) ≤ l2 → Q (some (vI l1)) M) ∧ (¬ (mI M 1 8) ≤ l2 → Cl X (d - 1) 0 0 m_X10_gameAt [vR 1, vI l2] M (fun r M1 => ∃ x1 : Nat, r = some (vR x1) ∧ Ext M M1 ∧ ((x1 = 0 → WA X d kc ns m_X10_gamesOver 4 [some (vR 1), some (vI l1), some (vI (l2 + (nI 1))), none] [] M1 Q) ∧ (¬ x1 = 0 → GaS M1 x1 ∧ Cl X (d - 1) 0 0 m_X1_isOver [vR x1] M1 (fun r M2 => ∃ x2 : Int32, r = some (vI x2) ∧ Ext M1 M2 ∧ ((x2 = nI 0 → WA X d kc ns m_X10_gamesOver 4 [some (vR 1), some (vI l1), some (vI (l2 + (nI 1))), none] [] M2 Q) ∧ (¬ x2 = nI 0 → WA X d kc ns m_X10_gamesOver 4 [some (vR 1), some (vI (l1 + (nI 1))), some (vI (l2 + (nI 1))), none] [] M2 Q))))))))) :
    WA X d kc ns m_X10_gamesOver 4 [some (vR 1), some (vI l1), some (vI l2), none] [] M Q := by
  refine x_iload_n (tk K_X10_gamesOver 4 rfl) rfl rfl ?_
  refine x_aload_n (tk K_X10_gamesOver 5 rfl) rfl rfl ?_
  refine x_getI (tk K_X10_gamesOver 6 rfl) f_X10_55 rfl (TpS.o hS) ?_
  refine x_icmp_ge (t := 38) (tk K_X10_gamesOver 7 rfl) rfl (fun hc => ?_) (fun hc => ?_)
  · have h := h.1 hc
    refine x_iload_n (tk K_X10_gamesOver 20 rfl) rfl rfl ?_
    exact x_ireturn (tk K_X10_gamesOver 21 rfl) rfl rfl h
  · have h := h.2 hc
    refine x_aload_n (tk K_X10_gamesOver 8 rfl) rfl rfl ?_
    refine x_iload_n (tk K_X10_gamesOver 9 rfl) rfl rfl ?_
    refine x_callV0 (As := [vI _]) (S := []) (tk K_X10_gamesOver 10 rfl) mk_X10_269 mo_X10_gameAt (TpS.o hS) rfl rfl (Nat.le_of_ble_eq_true rfl) hd h (fun r M1 hq => ?_)
    obtain ⟨x1, rfl, hE, h⟩ := hq
    have hT0 := TpS.ext hS hE
    refine x_astore_n (L' := [some (vR _), some (vI _), some (vI _), some (vR _)]) (tk K_X10_gamesOver 11 rfl) rfl rfl (Nat.le_of_ble_eq_true rfl) rfl ?_
    refine x_aload_n (tk K_X10_gamesOver 12 rfl) rfl rfl ?_
    refine x_ifnull (t := 32) (tk K_X10_gamesOver 13 rfl) rfl (fun hc => ?_) (fun hc => ?_)
    · have h := h.1 hc
      refine x_iincW (L' := [some (vR _), some (vI _), some (vI _), some (vR _)]) (tk K_X10_gamesOver 18 rfl) rfl ic_1 rfl (Nat.le_of_ble_eq_true rfl) rfl ?_
      refine x_goto (t := 4) (tk K_X10_gamesOver 19 rfl) rfl ?_
      refine x_msk [true, true, true, false] ?_
      exact h
    · have h := h.2 hc
      refine x_aload_n (tk K_X10_gamesOver 14 rfl) rfl rfl ?_
      have hS_2 := h.1
      have h := h.2
      refine x_callV0 (As := []) (S := []) (tk K_X10_gamesOver 15 rfl) mk_X10_294 mo_X1_isOver (GaS.o hS_2) rfl rfl (Nat.le_of_ble_eq_true rfl) hd h (fun r M2 hq => ?_)
      obtain ⟨x2, rfl, hE, h⟩ := hq
      have hT1 := TpS.ext hT0 hE
      have hT2 := GaS.ext hS_2 hE
      refine x_if_eq (t := 32) (tk K_X10_gamesOver 16 rfl) rfl (fun hc => ?_) (fun hc => ?_)
      · have h := h.1 hc
        refine x_iincW (L' := [some (vR _), some (vI _), some (vI _), some (vR _)]) (tk K_X10_gamesOver 18 rfl) rfl ic_1 rfl (Nat.le_of_ble_eq_true rfl) rfl ?_
        refine x_goto (t := 4) (tk K_X10_gamesOver 19 rfl) rfl ?_
        refine x_msk [true, true, true, false] ?_
        exact h
      · have h := h.2 hc
        refine x_iincW (L' := [some (vR _), some (vI _), some (vI _), some (vR _)]) (tk K_X10_gamesOver 17 rfl) rfl ic_1 rfl (Nat.le_of_ble_eq_true rfl) rfl ?_
        refine x_iincW (L' := [some (vR _), some (vI _), some (vI _), some (vR _)]) (tk K_X10_gamesOver 18 rfl) rfl ic_1 rfl (Nat.le_of_ble_eq_true rfl) rfl ?_
        refine x_goto (t := 4) (tk K_X10_gamesOver 19 rfl) rfl ?_
        refine x_msk [true, true, true, false] ?_
        exact h

theorem e_X10_gamesOver {X : Cx} {d kc ns : Nat} {M : Mem} {Q : Option AV → Mem → Prop} (h : WA X d kc ns m_X10_gamesOver 0 [some (vR 1), none, none, none] [] M Q) : Cl X d kc ns m_X10_gamesOver [vR 1] M Q := Cl.intro (k := 3) (by decide) rfl rfl h

-- TwoPencils.answer(III)I
theorem b_X10_answer_0 {X : Cx} {d kc ns : Nat} {M : Mem} {Q : Option AV → Mem → Prop} {l1 : Int32} {l2 : Int32} {l3 : Int32} (hS : TpS M) (hd : 1 ≤ d)
    (h : Cl X (d - 1) 0 0 m_X10_readyLand [vR 1, vI l1] M (fun r M1 => ∃ x1 : Nat, r = some (vR x1) ∧ Ext M M1 ∧ Cl X (d - 1) 0 0 m_X10_protocolAt [vR 1, vI l2] M1 (fun r M2 => ∃ x2 : Nat, r = some (vR x2) ∧ Ext M1 M2 ∧ ((x1 = 0 → Q (some (vI (-1))) M2) ∧ (¬ x1 = 0 → ((¬ x2 = 0 → ∀ x3 : Int32, x3 = ((((l1 * (nI 8)) + l2) * (nI 5)) + l3) → vp_in x3 240 ∧ ((¬ (mI M2 72 (ix x3)) = (-1000) → vp_in x3 240 ∧ Q (some (vI (mI M2 72 (ix x3)))) M2) ∧ ((mI M2 72 (ix x3)) = (-1000) → ((¬ l3 = (nI 3) → WA X d kc ns m_X10_answer 61 [some (vR 1), none, none, some (vI l3), some (vR x1), some (vR x2), some (vI x3), none] [vI (nI 0)] M2 Q) ∧ (l3 = (nI 3) → WA X d kc ns m_X10_answer 61 [some (vR 1), none, none, some (vI l3), some (vR x1), some (vR x2), some (vI x3), none] [vI (nI 1)] M2 Q))))) ∧ (x2 = 0 → Q (some (vI (-1))) M2))))))) :
    WA X d kc ns m_X10_answer 0 [some (vR 1), some (vI l1), some (vI l2), some (vI l3), none, none, none, none] [] M Q := by
  refine x_aload_n (tk K_X10_answer 0 rfl) rfl rfl ?_
  refine x_iload_n (tk K_X10_answer 1 rfl) rfl rfl ?_
  refine x_callV0 (As := [vI _]) (S := []) (tk K_X10_answer 2 rfl) mk_X10_184 mo_X10_readyLand (TpS.o hS) rfl rfl (Nat.le_of_ble_eq_true rfl) hd h (fun r M1 hq => ?_)
  obtain ⟨x1, rfl, hE, h⟩ := hq
  have hT0 := TpS.ext hS hE
  refine x_astore (L' := [some (vR _), some (vI _), some (vI _), some (vI _), some (vR _), none, none, none]) (tk K_X10_answer 3 rfl) rfl (Nat.le_of_ble_eq_true rfl) rfl ?_
  refine x_aload_n (tk K_X10_answer 4 rfl) rfl rfl ?_
  refine x_iload_n (tk K_X10_answer 5 rfl) rfl rfl ?_
  refine x_callV0 (As := [vI _]) (S := []) (tk K_X10_answer 6 rfl) mk_X10_261 mo_X10_protocolAt (TpS.o hT0) rfl rfl (Nat.le_of_ble_eq_true rfl) hd h (fun r M2 hq => ?_)
  obtain ⟨x2, rfl, hE, h⟩ := hq
  have hT1 := TpS.ext hT0 hE
  refine x_astore (L' := [some (vR _), some (vI _), some (vI _), some (vI _), some (vR _), some (vR _), none, none]) (tk K_X10_answer 7 rfl) rfl (Nat.le_of_ble_eq_true rfl) rfl ?_
  refine x_aload (tk K_X10_answer 8 rfl) rfl ?_
  refine x_ifnull (t := 24) (tk K_X10_answer 9 rfl) rfl (fun hc => ?_) (fun hc => ?_)
  · have h := h.1 hc
    refine x_iconst (tk K_X10_answer 12 rfl) ic_m1 ?_
    exact x_ireturn (tk K_X10_answer 13 rfl) rfl rfl h
  · have h := h.2 hc
    refine x_aload (tk K_X10_answer 10 rfl) rfl ?_
    refine x_ifnonnull (t := 26) (tk K_X10_answer 11 rfl) rfl (fun hc => ?_) (fun hc => ?_)
    · have h := h.1 hc
      refine x_iload_n (tk K_X10_answer 14 rfl) rfl rfl ?_
      refine x_bipush (tk K_X10_answer 15 rfl) bp_8 ?_
      refine x_imul (tk K_X10_answer 16 rfl) ?_
      refine x_iload_n (tk K_X10_answer 17 rfl) rfl rfl ?_
      refine x_iadd (tk K_X10_answer 18 rfl) ?_
      refine x_iconst (tk K_X10_answer 19 rfl) ic_5 ?_
      refine x_imul (tk K_X10_answer 20 rfl) ?_
      refine x_iload_n (tk K_X10_answer 21 rfl) rfl rfl ?_
      refine x_iadd (tk K_X10_answer 22 rfl) ?_
      have h := h _ rfl
      refine x_istore (L' := [some (vR _), some (vI _), some (vI _), some (vI _), some (vR _), some (vR _), some (vI _), none]) (tk K_X10_answer 23 rfl) rfl (Nat.le_of_ble_eq_true rfl) rfl ?_
      refine x_aload_n (tk K_X10_answer 24 rfl) rfl rfl ?_
      refine x_getRc (tk K_X10_answer 25 rfl) f_X10_104 rfl (TpS.o hT1) (TpS.r15 hT1) ?_
      refine x_iload (tk K_X10_answer 26 rfl) rfl ?_
      have hi := h.1
      have h := h.2
      refine x_iald (tk K_X10_answer 27 rfl) (TpS.k15 hT1) hi ?_
      refine x_sipush (tk K_X10_answer 28 rfl) sp_m1000 ?_
      refine x_icmp_ne (t := 123) (tk K_X10_answer 29 rfl) rfl (fun hc => ?_) (fun hc => ?_)
      · have h := h.1 hc
        refine x_aload_n (tk K_X10_answer 66 rfl) rfl rfl ?_
        refine x_getRc (tk K_X10_answer 67 rfl) f_X10_104 rfl (TpS.o hT1) (TpS.r15 hT1) ?_
        refine x_iload (tk K_X10_answer 68 rfl) rfl ?_
        have hi := h.1
        have h := h.2
        refine x_iald (tk K_X10_answer 69 rfl) (TpS.k15 hT1) hi ?_
        exact x_ireturn (tk K_X10_answer 70 rfl) rfl rfl h
      · have h := h.2 hc
        refine x_iload_n (tk K_X10_answer 30 rfl) rfl rfl ?_
        refine x_iconst (tk K_X10_answer 31 rfl) ic_3 ?_
        refine x_icmp_ne (t := 60) (tk K_X10_answer 32 rfl) rfl (fun hc => ?_) (fun hc => ?_)
        · have h := h.1 hc
          refine x_iconst (tk K_X10_answer 35 rfl) ic_0 ?_
          refine x_msk [true, false, false, true, true, true, true, false] ?_
          exact h
        · have h := h.2 hc
          refine x_iconst (tk K_X10_answer 33 rfl) ic_1 ?_
          refine x_goto (t := 61) (tk K_X10_answer 34 rfl) rfl ?_
          refine x_msk [true, false, false, true, true, true, true, false] ?_
          exact h
    · have h := h.2 hc
      refine x_iconst (tk K_X10_answer 12 rfl) ic_m1 ?_
      exact x_ireturn (tk K_X10_answer 13 rfl) rfl rfl h

theorem b_X10_answer_61 {X : Cx} {d kc ns : Nat} {M : Mem} {Q : Option AV → Mem → Prop} {l3 : Int32} {l4 : Nat} {l5 : Nat} {l6 : Int32} {s0 : Int32} (hS : TpS M)
    (h : ((s0 = nI 0 → WA X d kc ns m_X10_answer 81 [some (vR 1), none, none, some (vI l3), some (vR l4), some (vR l5), some (vI l6), some (vI s0)] [vI (nI 0), vR l5, vR l4, vR 38] M Q) ∧ (¬ s0 = nI 0 → WA X d kc ns m_X10_answer 81 [some (vR 1), none, none, some (vI l3), some (vR l4), some (vR l5), some (vI l6), some (vI s0)] [vI (nI 1), vR l5, vR l4, vR 38] M Q))) :
    WA X d kc ns m_X10_answer 61 [some (vR 1), none, none, some (vI l3), some (vR l4), some (vR l5), some (vI l6), none] [vI s0] M Q := by
  refine x_istore (L' := [some (vR _), none, none, some (vI _), some (vR _), some (vR _), some (vI _), some (vI _)]) (tk K_X10_answer 36 rfl) rfl (Nat.le_of_ble_eq_true rfl) rfl ?_
  refine x_aload_n (tk K_X10_answer 37 rfl) rfl rfl ?_
  refine x_getRc (tk K_X10_answer 38 rfl) f_X10_93 rfl (TpS.o hS) (TpS.r13 hS) ?_
  refine x_aload (tk K_X10_answer 39 rfl) rfl ?_
  refine x_aload (tk K_X10_answer 40 rfl) rfl ?_
  refine x_iload (tk K_X10_answer 41 rfl) rfl ?_
  refine x_if_eq (t := 80) (tk K_X10_answer 42 rfl) rfl (fun hc => ?_) (fun hc => ?_)
  · have h := h.1 hc
    refine x_iconst (tk K_X10_answer 45 rfl) ic_0 ?_
    exact h
  · have h := h.2 hc
    refine x_iconst (tk K_X10_answer 43 rfl) ic_1 ?_
    refine x_goto (t := 81) (tk K_X10_answer 44 rfl) rfl ?_
    exact h

theorem b_X10_answer_81 {X : Cx} {d kc ns : Nat} {M : Mem} {Q : Option AV → Mem → Prop} {l3 : Int32} {l4 : Nat} {l5 : Nat} {l6 : Int32} {l7 : Int32} {s0 : Nat} {s1 : Nat} {s2 : Nat} {s3 : Int32} (hS : TpS M)
    (h : ((l7 = nI 0 → WA X d kc ns m_X10_answer 91 [some (vR 1), none, none, none, some (vR l4), some (vR l5), some (vI l6), none] [vI l3, vI s3, vR s2, vR s1, vR s0] M Q) ∧ (¬ l7 = nI 0 → WA X d kc ns m_X10_answer 91 [some (vR 1), none, none, none, some (vR l4), some (vR l5), some (vI l6), none] [vI (nI 0), vI s3, vR s2, vR s1, vR s0] M Q))) :
    WA X d kc ns m_X10_answer 81 [some (vR 1), none, none, some (vI l3), some (vR l4), some (vR l5), some (vI l6), some (vI l7)] [vI s3, vR s2, vR s1, vR s0] M Q := by
  refine x_iload (tk K_X10_answer 46 rfl) rfl ?_
  refine x_if_eq (t := 90) (tk K_X10_answer 47 rfl) rfl (fun hc => ?_) (fun hc => ?_)
  · have h := h.1 hc
    refine x_iload_n (tk K_X10_answer 50 rfl) rfl rfl ?_
    refine x_msk [true, false, false, false, true, true, true, false] ?_
    exact h
  · have h := h.2 hc
    refine x_iconst (tk K_X10_answer 48 rfl) ic_0 ?_
    refine x_goto (t := 91) (tk K_X10_answer 49 rfl) rfl ?_
    refine x_msk [true, false, false, false, true, true, true, false] ?_
    exact h

theorem b_X10_answer_91 {X : Cx} {d kc ns : Nat} {M : Mem} {Q : Option AV → Mem → Prop} {l4 : Nat} {l5 : Nat} {l6 : Int32} {s0 : Nat} {s1 : Nat} {s2 : Nat} {s3 : Int32} {s4 : Int32} (hS : TpS M) (hd : 1 ≤ d)
    (h : MiS M s0 ∧ Cl X (d - 1) 0 0 m_X5_turnTo [vR s0, vR s1, vR s2, vI s3, vI s4] M (fun r M1 => r = none ∧ Ext M M1 ∧ Cl X (d - 1) 0 0 m_X1_start [vR 67, vR l4, vR l5] M1 (fun r M2 => r = none ∧ Ext M1 M2 ∧ Cl X (d - 1) 0 0 m_X5_weigh [vR 38, vR 67] M2 (fun r M3 => ∃ x1 : Int32, r = some (vI x1) ∧ Ext M2 M3 ∧ vp_in l6 240 ∧ ∀ M4 : Mem, M4 = sI M3 72 (ix l6) x1 → vp_in l6 240 ∧ Q (some (vI (mI M4 72 (ix l6)))) M4)))) :
    WA X d kc ns m_X10_answer 91 [some (vR 1), none, none, none, some (vR l4), some (vR l5), some (vI l6), none] [vI s4, vI s3, vR s2, vR s1, vR s0] M Q := by
  have hS_2 := h.1
  have h := h.2
  refine x_callV0 (As := [vR _, vR _, vI _, vI _]) (S := []) (tk K_X10_answer 51 rfl) mk_X10_304 mo_X5_turnTo (MiS.o hS_2) rfl rfl (Nat.le_of_ble_eq_true rfl) hd h (fun r M1 hq => ?_)
  obtain ⟨rfl, hE, h⟩ := hq
  have hT0 := TpS.ext hS hE
  have hT1 := MiS.ext hS_2 hE
  refine x_aload_n (tk K_X10_answer 52 rfl) rfl rfl ?_
  refine x_getRc (tk K_X10_answer 53 rfl) f_X10_100 rfl (TpS.o hT0) (TpS.r14 hT0) ?_
  refine x_aload (tk K_X10_answer 54 rfl) rfl ?_
  refine x_aload (tk K_X10_answer 55 rfl) rfl ?_
  refine x_callV0 (As := [vR _, vR _]) (S := []) (tk K_X10_answer 56 rfl) mk_X10_265 mo_X1_start (GaS.o (TpS.k14 hT0)) rfl rfl (Nat.le_of_ble_eq_true rfl) hd h (fun r M2 hq => ?_)
  obtain ⟨rfl, hE, h⟩ := hq
  have hT2 := TpS.ext hT0 hE
  have hT3 := MiS.ext hT1 hE
  have hT4 := GaS.ext (TpS.k14 hT0) hE
  refine x_aload_n (tk K_X10_answer 57 rfl) rfl rfl ?_
  refine x_getRc (tk K_X10_answer 58 rfl) f_X10_104 rfl (TpS.o hT2) (TpS.r15 hT2) ?_
  refine x_iload (tk K_X10_answer 59 rfl) rfl ?_
  refine x_aload_n (tk K_X10_answer 60 rfl) rfl rfl ?_
  refine x_getRc (tk K_X10_answer 61 rfl) f_X10_93 rfl (TpS.o hT2) (TpS.r13 hT2) ?_
  refine x_aload_n (tk K_X10_answer 62 rfl) rfl rfl ?_
  refine x_getRc (tk K_X10_answer 63 rfl) f_X10_100 rfl (TpS.o hT2) (TpS.r14 hT2) ?_
  refine x_callV0 (As := [vR _]) (S := [vI _, vR _]) (tk K_X10_answer 64 rfl) mk_X10_308 mo_X5_weigh (MiS.o (TpS.k13 hT2)) rfl rfl (Nat.le_of_ble_eq_true rfl) hd h (fun r M3 hq => ?_)
  obtain ⟨x1, rfl, hE, h⟩ := hq
  have hT5 := TpS.ext hT2 hE
  have hT6 := MiS.ext hT3 hE
  have hT7 := GaS.ext (TpS.k14 hT2) hE
  have hT8 := MiS.ext (TpS.k13 hT2) hE
  have hT9 := hE.1 _ _ _ (TpS.k15 hT2)
  have hi := h.1
  have h := h.2
  have h := h _ rfl
  refine x_iast (tk K_X10_answer 65 rfl) hT9 hi ?_
  refine x_aload_n (tk K_X10_answer 66 rfl) rfl rfl ?_
  refine x_getRc (tk K_X10_answer 67 rfl) f_X10_104 rfl (TpS.o hT5) (TpS.r15 hT5) ?_
  refine x_iload (tk K_X10_answer 68 rfl) rfl ?_
  have hi := h.1
  have h := h.2
  refine x_iald (tk K_X10_answer 69 rfl) (TpS.k15 hT5) hi ?_
  exact x_ireturn (tk K_X10_answer 70 rfl) rfl rfl h

theorem e_X10_answer {X : Cx} {d kc ns : Nat} {M : Mem} {Q : Option AV → Mem → Prop} {a1 : Int32} {a2 : Int32} {a3 : Int32} (h : WA X d kc ns m_X10_answer 0 [some (vR 1), some (vI a1), some (vI a2), some (vI a3), none, none, none, none] [] M Q) : Cl X d kc ns m_X10_answer [vR 1, vI a1, vI a2, vI a3] M Q := Cl.intro (k := 4) (by decide) rfl rfl h

-- TwoPencils.endOf(II)I
theorem b_X10_endOf_0 {X : Cx} {d kc ns : Nat} {M : Mem} {Q : Option AV → Mem → Prop} {l1 : Int32} {l2 : Int32} (hS : TpS M) (hd : 1 ≤ d)
    (h : Cl X (d - 1) 0 0 m_X10_readyLand [vR 1, vI l1] M (fun r M1 => ∃ x1 : Nat, r = some (vR x1) ∧ Ext M M1 ∧ Cl X (d - 1) 0 0 m_X10_protocolAt [vR 1, vI l2] M1 (fun r M2 => ∃ x2 : Nat, r = some (vR x2) ∧ Ext M1 M2 ∧ ((x1 = 0 → Q (some (vI (-1))) M2) ∧ (¬ x1 = 0 → ((¬ x2 = 0 → ∀ x3 : Int32, x3 = ((((l1 * (nI 8)) + l2) * (nI 5)) + (nI 4)) → vp_in x3 240 ∧ ((¬ (mI M2 72 (ix x3)) = (-1000) → vp_in x3 240 ∧ Q (some (vI (mI M2 72 (ix x3)))) M2) ∧ ((mI M2 72 (ix x3)) = (-1000) → Cl X (d - 1) 0 0 m_X5_turnTo [vR 38, vR x1, vR x2, vI (nI 0), vI (nI 0)] M2 (fun r M3 => r = none ∧ Ext M2 M3 ∧ Cl X (d - 1) 0 0 m_X1_start [vR 67, vR x1, vR x2] M3 (fun r M4 => r = none ∧ Ext M3 M4 ∧ WA X d kc ns m_X10_endOf 74 [some (vR 1), none, none, some (vR x1), none, some (vI x3), some (vI (nI 0))] [] M4 Q))))) ∧ (x2 = 0 → Q (some (vI (-1))) M2))))))) :
    WA X d kc ns m_X10_endOf 0 [some (vR 1), some (vI l1), some (vI l2), none, none, none, none] [] M Q := by
  refine x_aload_n (tk K_X10_endOf 0 rfl) rfl rfl ?_
  refine x_iload_n (tk K_X10_endOf 1 rfl) rfl rfl ?_
  refine x_callV0 (As := [vI _]) (S := []) (tk K_X10_endOf 2 rfl) mk_X10_184 mo_X10_readyLand (TpS.o hS) rfl rfl (Nat.le_of_ble_eq_true rfl) hd h (fun r M1 hq => ?_)
  obtain ⟨x1, rfl, hE, h⟩ := hq
  have hT0 := TpS.ext hS hE
  refine x_astore_n (L' := [some (vR _), some (vI _), some (vI _), some (vR _), none, none, none]) (tk K_X10_endOf 3 rfl) rfl rfl (Nat.le_of_ble_eq_true rfl) rfl ?_
  refine x_aload_n (tk K_X10_endOf 4 rfl) rfl rfl ?_
  refine x_iload_n (tk K_X10_endOf 5 rfl) rfl rfl ?_
  refine x_callV0 (As := [vI _]) (S := []) (tk K_X10_endOf 6 rfl) mk_X10_261 mo_X10_protocolAt (TpS.o hT0) rfl rfl (Nat.le_of_ble_eq_true rfl) hd h (fun r M2 hq => ?_)
  obtain ⟨x2, rfl, hE, h⟩ := hq
  have hT1 := TpS.ext hT0 hE
  refine x_astore (L' := [some (vR _), some (vI _), some (vI _), some (vR _), some (vR _), none, none]) (tk K_X10_endOf 7 rfl) rfl (Nat.le_of_ble_eq_true rfl) rfl ?_
  refine x_aload_n (tk K_X10_endOf 8 rfl) rfl rfl ?_
  refine x_ifnull (t := 22) (tk K_X10_endOf 9 rfl) rfl (fun hc => ?_) (fun hc => ?_)
  · have h := h.1 hc
    refine x_iconst (tk K_X10_endOf 12 rfl) ic_m1 ?_
    exact x_ireturn (tk K_X10_endOf 13 rfl) rfl rfl h
  · have h := h.2 hc
    refine x_aload (tk K_X10_endOf 10 rfl) rfl ?_
    refine x_ifnonnull (t := 24) (tk K_X10_endOf 11 rfl) rfl (fun hc => ?_) (fun hc => ?_)
    · have h := h.1 hc
      refine x_iload_n (tk K_X10_endOf 14 rfl) rfl rfl ?_
      refine x_bipush (tk K_X10_endOf 15 rfl) bp_8 ?_
      refine x_imul (tk K_X10_endOf 16 rfl) ?_
      refine x_iload_n (tk K_X10_endOf 17 rfl) rfl rfl ?_
      refine x_iadd (tk K_X10_endOf 18 rfl) ?_
      refine x_iconst (tk K_X10_endOf 19 rfl) ic_5 ?_
      refine x_imul (tk K_X10_endOf 20 rfl) ?_
      refine x_iconst (tk K_X10_endOf 21 rfl) ic_4 ?_
      refine x_iadd (tk K_X10_endOf 22 rfl) ?_
      have h := h _ rfl
      refine x_istore (L' := [some (vR _), some (vI _), some (vI _), some (vR _), some (vR _), some (vI _), none]) (tk K_X10_endOf 23 rfl) rfl (Nat.le_of_ble_eq_true rfl) rfl ?_
      refine x_aload_n (tk K_X10_endOf 24 rfl) rfl rfl ?_
      refine x_getRc (tk K_X10_endOf 25 rfl) f_X10_104 rfl (TpS.o hT1) (TpS.r15 hT1) ?_
      refine x_iload (tk K_X10_endOf 26 rfl) rfl ?_
      have hi := h.1
      have h := h.2
      refine x_iald (tk K_X10_endOf 27 rfl) (TpS.k15 hT1) hi ?_
      refine x_sipush (tk K_X10_endOf 28 rfl) sp_m1000 ?_
      refine x_icmp_ne (t := 181) (tk K_X10_endOf 29 rfl) rfl (fun hc => ?_) (fun hc => ?_)
      · have h := h.1 hc
        refine x_aload_n (tk K_X10_endOf 91 rfl) rfl rfl ?_
        refine x_getRc (tk K_X10_endOf 92 rfl) f_X10_104 rfl (TpS.o hT1) (TpS.r15 hT1) ?_
        refine x_iload (tk K_X10_endOf 93 rfl) rfl ?_
        have hi := h.1
        have h := h.2
        refine x_iald (tk K_X10_endOf 94 rfl) (TpS.k15 hT1) hi ?_
        exact x_ireturn (tk K_X10_endOf 95 rfl) rfl rfl h
      · have h := h.2 hc
        refine x_aload_n (tk K_X10_endOf 30 rfl) rfl rfl ?_
        refine x_getRc (tk K_X10_endOf 31 rfl) f_X10_93 rfl (TpS.o hT1) (TpS.r13 hT1) ?_
        refine x_aload_n (tk K_X10_endOf 32 rfl) rfl rfl ?_
        refine x_aload (tk K_X10_endOf 33 rfl) rfl ?_
        refine x_iconst (tk K_X10_endOf 34 rfl) ic_0 ?_
        refine x_iconst (tk K_X10_endOf 35 rfl) ic_0 ?_
        refine x_callV0 (As := [vR _, vR _, vI _, vI _]) (S := []) (tk K_X10_endOf 36 rfl) mk_X10_304 mo_X5_turnTo (MiS.o (TpS.k13 hT1)) rfl rfl (Nat.le_of_ble_eq_true rfl) hd h (fun r M3 hq => ?_)
        obtain ⟨rfl, hE, h⟩ := hq
        have hT2 := TpS.ext hT1 hE
        have hT3 := MiS.ext (TpS.k13 hT1) hE
        have hT4 := hE.1 _ _ _ (TpS.k15 hT1)
        refine x_aload_n (tk K_X10_endOf 37 rfl) rfl rfl ?_
        refine x_getRc (tk K_X10_endOf 38 rfl) f_X10_100 rfl (TpS.o hT2) (TpS.r14 hT2) ?_
        refine x_aload_n (tk K_X10_endOf 39 rfl) rfl rfl ?_
        refine x_aload (tk K_X10_endOf 40 rfl) rfl ?_
        refine x_callV0 (As := [vR _, vR _]) (S := []) (tk K_X10_endOf 41 rfl) mk_X10_265 mo_X1_start (GaS.o (TpS.k14 hT2)) rfl rfl (Nat.le_of_ble_eq_true rfl) hd h (fun r M4 hq => ?_)
        obtain ⟨rfl, hE, h⟩ := hq
        have hT5 := TpS.ext hT2 hE
        have hT6 := MiS.ext hT3 hE
        have hT7 := GaS.ext (TpS.k14 hT2) hE
        have hT8 := hE.1 _ _ _ hT4
        refine x_iconst (tk K_X10_endOf 42 rfl) ic_0 ?_
        refine x_istore (L' := [some (vR _), some (vI _), some (vI _), some (vR _), some (vR _), some (vI _), some (vI _)]) (tk K_X10_endOf 43 rfl) rfl (Nat.le_of_ble_eq_true rfl) rfl ?_
        refine x_msk [true, false, false, true, false, true, true] ?_
        exact h
    · have h := h.2 hc
      refine x_iconst (tk K_X10_endOf 12 rfl) ic_m1 ?_
      exact x_ireturn (tk K_X10_endOf 13 rfl) rfl rfl h

theorem b_X10_endOf_74 {X : Cx} {d kc ns : Nat} {M : Mem} {Q : Option AV → Mem → Prop} {l3 : Nat} {l5 : Int32} {l6 : Int32} (hS : TpS M) (hd : 1 ≤ d)
    (h : (((nI 8) ≤ l6 → WA X d kc ns m_X10_endOf 123 [some (vR 1), none, none, some (vR l3), none, some (vI l5), none] [] M Q) ∧ (¬ (nI 8) ≤ l6 → Cl X (d - 1) 0 0 m_X1_isOver [vR 67] M (fun r M1 => ∃ x1 : Int32, r = some (vI x1) ∧ Ext M M1 ∧ ((¬ x1 = nI 0 → WA X d kc ns m_X10_endOf 123 [some (vR 1), none, none, some (vR l3), none, some (vI l5), none] [] M1 Q) ∧ (x1 = nI 0 → Cl X (d - 1) 0 0 m_X5_weigh [vR 38, vR 67] M1 (fun r M2 => ∃ x2 : Int32, r = some (vI x2) ∧ Ext M1 M2 ∧ Cl X (d - 1) 0 0 m_X1_play [vR 67, vI (mI M2 38 9)] M2 (fun r M3 => r = none ∧ Ext M2 M3 ∧ WA X d kc ns m_X10_endOf 74 [some (vR 1), none, none, some (vR l3), none, some (vI l5), some (vI (l6 + (nI 1)))] [] M3 Q)))))))) :
    WA X d kc ns m_X10_endOf 74 [some (vR 1), none, none, some (vR l3), none, some (vI l5), some (vI l6)] [] M Q := by
  refine x_iload (tk K_X10_endOf 44 rfl) rfl ?_
  refine x_bipush (tk K_X10_endOf 45 rfl) bp_8 ?_
  refine x_icmp_ge (t := 123) (tk K_X10_endOf 46 rfl) rfl (fun hc => ?_) (fun hc => ?_)
  · have h := h.1 hc
    refine x_msk [true, false, false, true, false, true, false] ?_
    exact h
  · have h := h.2 hc
    refine x_aload_n (tk K_X10_endOf 47 rfl) rfl rfl ?_
    refine x_getRc (tk K_X10_endOf 48 rfl) f_X10_100 rfl (TpS.o hS) (TpS.r14 hS) ?_
    refine x_callV0 (As := []) (S := []) (tk K_X10_endOf 49 rfl) mk_X10_294 mo_X1_isOver (GaS.o (TpS.k14 hS)) rfl rfl (Nat.le_of_ble_eq_true rfl) hd h (fun r M1 hq => ?_)
    obtain ⟨x1, rfl, hE, h⟩ := hq
    have hT0 := TpS.ext hS hE
    have hT1 := GaS.ext (TpS.k14 hS) hE
    refine x_if_ne (t := 123) (tk K_X10_endOf 50 rfl) rfl (fun hc => ?_) (fun hc => ?_)
    · have h := h.1 hc
      refine x_msk [true, false, false, true, false, true, false] ?_
      exact h
    · have h := h.2 hc
      refine x_aload_n (tk K_X10_endOf 51 rfl) rfl rfl ?_
      refine x_getRc (tk K_X10_endOf 52 rfl) f_X10_93 rfl (TpS.o hT0) (TpS.r13 hT0) ?_
      refine x_aload_n (tk K_X10_endOf 53 rfl) rfl rfl ?_
      refine x_getRc (tk K_X10_endOf 54 rfl) f_X10_100 rfl (TpS.o hT0) (TpS.r14 hT0) ?_
      refine x_callV0 (As := [vR _]) (S := []) (tk K_X10_endOf 55 rfl) mk_X10_308 mo_X5_weigh (MiS.o (TpS.k13 hT0)) rfl rfl (Nat.le_of_ble_eq_true rfl) hd h (fun r M2 hq => ?_)
      obtain ⟨x2, rfl, hE, h⟩ := hq
      have hT2 := TpS.ext hT0 hE
      have hT3 := GaS.ext (TpS.k14 hT0) hE
      have hT4 := MiS.ext (TpS.k13 hT0) hE
      refine x_pop (tk K_X10_endOf 56 rfl) rfl ?_
      refine x_aload_n (tk K_X10_endOf 57 rfl) rfl rfl ?_
      refine x_getRc (tk K_X10_endOf 58 rfl) f_X10_100 rfl (TpS.o hT2) (TpS.r14 hT2) ?_
      refine x_aload_n (tk K_X10_endOf 59 rfl) rfl rfl ?_
      refine x_getRc (tk K_X10_endOf 60 rfl) f_X10_93 rfl (TpS.o hT2) (TpS.r13 hT2) ?_
      refine x_getI (tk K_X10_endOf 61 rfl) f_X10_312 rfl (MiS.o (TpS.k13 hT2)) ?_
      refine x_callV0 (As := [vI _]) (S := []) (tk K_X10_endOf 62 rfl) mk_X10_282 mo_X1_play (GaS.o (TpS.k14 hT2)) rfl rfl (Nat.le_of_ble_eq_true rfl) hd h (fun r M3 hq => ?_)
      obtain ⟨rfl, hE, h⟩ := hq
      have hT5 := TpS.ext hT2 hE
      have hT6 := GaS.ext (TpS.k14 hT2) hE
      have hT7 := MiS.ext (TpS.k13 hT2) hE
      refine x_iincW (L' := [some (vR _), none, none, some (vR _), none, some (vI _), some (vI _)]) (tk K_X10_endOf 63 rfl) rfl ic_1 rfl (Nat.le_of_ble_eq_true rfl) rfl ?_
      refine x_goto (t := 74) (tk K_X10_endOf 64 rfl) rfl ?_
      exact h

theorem b_X10_endOf_123 {X : Cx} {d kc ns : Nat} {M : Mem} {Q : Option AV → Mem → Prop} {l3 : Nat} {l5 : Int32} (hS : TpS M) (hd : 1 ≤ d)
    (h : Cl X (d - 1) 0 0 m_X3_order [vR (67 + 2), vI (mI M 67 7)] M (fun r M1 => r = none ∧ Ext M M1 ∧ ((¬ (mI M1 67 10) = (nI 8) → WA X d kc ns m_X10_endOf 180 [some (vR 1), none, none, none, none, some (vI l5), none] [vI (-1), vI l5, vR 72] M1 Q) ∧ ((mI M1 67 10) = (nI 8) → LaS M1 l3 ∧ Cl X (d - 1) 0 0 m_X3_numberOf [vR l3, vR (67 + 2), vI (mI M1 67 7)] M1 (fun r M2 => ∃ x1 : Int32, r = some (vI x1) ∧ Ext M1 M2 ∧ WA X d kc ns m_X10_endOf 180 [some (vR 1), none, none, none, none, some (vI l5), none] [vI x1, vI l5, vR 72] M2 Q))))) :
    WA X d kc ns m_X10_endOf 123 [some (vR 1), none, none, some (vR l3), none, some (vI l5), none] [] M Q := by
  refine x_aload_n (tk K_X10_endOf 65 rfl) rfl rfl ?_
  refine x_getRc (tk K_X10_endOf 66 rfl) f_X10_100 rfl (TpS.o hS) (TpS.r14 hS) ?_
  refine x_getRc (tk K_X10_endOf 67 rfl) f_X10_321 rfl (GaS.o (TpS.k14 hS)) (GaS.r6 (TpS.k14 hS)) ?_
  refine x_aload_n (tk K_X10_endOf 68 rfl) rfl rfl ?_
  refine x_getRc (tk K_X10_endOf 69 rfl) f_X10_100 rfl (TpS.o hS) (TpS.r14 hS) ?_
  refine x_getI (tk K_X10_endOf 70 rfl) f_X10_318 rfl (GaS.o (TpS.k14 hS)) ?_
  refine x_callS0 (As := [vR _, vI _]) (S := []) (tk K_X10_endOf 71 rfl) mk_X10_340 mo_X3_order rfl rfl (Nat.le_of_ble_eq_true rfl) hd h (fun r M1 hq => ?_)
  obtain ⟨rfl, hE, h⟩ := hq
  have hT0 := TpS.ext hS hE
  have hT1 := GaS.ext (TpS.k14 hS) hE
  have hT2 := hE.1 _ _ _ (GaS.k6 (TpS.k14 hS))
  refine x_aload_n (tk K_X10_endOf 72 rfl) rfl rfl ?_
  refine x_getRc (tk K_X10_endOf 73 rfl) f_X10_104 rfl (TpS.o hT0) (TpS.r15 hT0) ?_
  refine x_iload (tk K_X10_endOf 74 rfl) rfl ?_
  refine x_aload_n (tk K_X10_endOf 75 rfl) rfl rfl ?_
  refine x_getRc (tk K_X10_endOf 76 rfl) f_X10_100 rfl (TpS.o hT0) (TpS.r14 hT0) ?_
  refine x_getI (tk K_X10_endOf 77 rfl) f_X10_273 rfl (GaS.o (TpS.k14 hT0)) ?_
  refine x_bipush (tk K_X10_endOf 78 rfl) bp_8 ?_
  refine x_icmp_ne (t := 179) (tk K_X10_endOf 79 rfl) rfl (fun hc => ?_) (fun hc => ?_)
  · have h := h.1 hc
    refine x_iconst (tk K_X10_endOf 89 rfl) ic_m1 ?_
    refine x_msk [true, false, false, false, false, true, false] ?_
    exact h
  · have h := h.2 hc
    refine x_aload_n (tk K_X10_endOf 80 rfl) rfl rfl ?_
    refine x_aload_n (tk K_X10_endOf 81 rfl) rfl rfl ?_
    refine x_getRc (tk K_X10_endOf 82 rfl) f_X10_100 rfl (TpS.o hT0) (TpS.r14 hT0) ?_
    refine x_getRc (tk K_X10_endOf 83 rfl) f_X10_321 rfl (GaS.o (TpS.k14 hT0)) (GaS.r6 (TpS.k14 hT0)) ?_
    refine x_aload_n (tk K_X10_endOf 84 rfl) rfl rfl ?_
    refine x_getRc (tk K_X10_endOf 85 rfl) f_X10_100 rfl (TpS.o hT0) (TpS.r14 hT0) ?_
    refine x_getI (tk K_X10_endOf 86 rfl) f_X10_318 rfl (GaS.o (TpS.k14 hT0)) ?_
    have hS_3 := h.1
    have h := h.2
    refine x_callV0 (As := [vR _, vI _]) (S := [vI _, vR _]) (tk K_X10_endOf 87 rfl) mk_X10_258 mo_X3_numberOf (LaS.o hS_3) rfl rfl (Nat.le_of_ble_eq_true rfl) hd h (fun r M2 hq => ?_)
    obtain ⟨x1, rfl, hE, h⟩ := hq
    have hT3 := TpS.ext hT0 hE
    have hT4 := GaS.ext (TpS.k14 hT0) hE
    have hT5 := LaS.ext hS_3 hE
    have hT6 := hE.1 _ _ _ (GaS.k6 (TpS.k14 hT0))
    have hT7 := hE.1 _ _ _ (TpS.k15 hT0)
    refine x_goto (t := 180) (tk K_X10_endOf 88 rfl) rfl ?_
    refine x_msk [true, false, false, false, false, true, false] ?_
    exact h

theorem b_X10_endOf_180 {X : Cx} {d kc ns : Nat} {M : Mem} {Q : Option AV → Mem → Prop} {l5 : Int32} {s0 : Nat} {s1 : Int32} {s2 : Int32} (hS : TpS M)
    (h : ∃ n1 : Nat, isK M s0 14 n1 ∧ vp_in s1 n1 ∧ ∀ M1 : Mem, M1 = sI M s0 (ix s1) s2 → vp_in l5 240 ∧ Q (some (vI (mI M1 72 (ix l5)))) M1) :
    WA X d kc ns m_X10_endOf 180 [some (vR 1), none, none, none, none, some (vI l5), none] [vI s2, vI s1, vR s0] M Q := by
  obtain ⟨n1, hA_n1, h⟩ := h
  have hi := h.1
  have h := h.2
  have h := h _ rfl
  refine x_iast (tk K_X10_endOf 90 rfl) hA_n1 hi ?_
  refine x_aload_n (tk K_X10_endOf 91 rfl) rfl rfl ?_
  refine x_getRc (tk K_X10_endOf 92 rfl) f_X10_104 rfl (TpS.o hS) (TpS.r15 hS) ?_
  refine x_iload (tk K_X10_endOf 93 rfl) rfl ?_
  have hi := h.1
  have h := h.2
  refine x_iald (tk K_X10_endOf 94 rfl) (TpS.k15 hS) hi ?_
  exact x_ireturn (tk K_X10_endOf 95 rfl) rfl rfl h

theorem e_X10_endOf {X : Cx} {d kc ns : Nat} {M : Mem} {Q : Option AV → Mem → Prop} {a1 : Int32} {a2 : Int32} (h : WA X d kc ns m_X10_endOf 0 [some (vR 1), some (vI a1), some (vI a2), none, none, none, none] [] M Q) : Cl X d kc ns m_X10_endOf [vR 1, vI a1, vI a2] M Q := Cl.intro (k := 4) (by decide) rfl rfl h

-- TwoPencils.farOfEnd(II)I
theorem b_X10_farOfEnd_0 {X : Cx} {d kc ns : Nat} {M : Mem} {Q : Option AV → Mem → Prop} {l1 : Int32} {l2 : Int32} (hS : TpS M) (hd : 1 ≤ d)
    (h : Cl X (d - 1) 0 0 m_X10_landWithLawful [vR 1, vI l1, vI l2] M (fun r M1 => ∃ x1 : Nat, r = some (vR x1) ∧ Ext M M1 ∧ ((¬ x1 = 0 → LaS M1 x1 ∧ Cl X (d - 1) 0 0 m_X3_wins [vR x1, vR 73, vI (nI 0)] M1 (fun r M2 => ∃ x2 : Int32, r = some (vI x2) ∧ Ext M1 M2 ∧ Cl X (d - 1) 0 0 m_X3_farUpper [vR x1, vI x2, vI (nI 0)] M2 (fun r M3 => ∃ x3 : Int32, r = some (vI x3) ∧ Ext M2 M3 ∧ Q (some (vI x3)) M3))) ∧ (x1 = 0 → Q (some (vI (-1))) M1)))) :
    WA X d kc ns m_X10_farOfEnd 0 [some (vR 1), some (vI l1), some (vI l2), none] [] M Q := by
  refine x_aload_n (tk K_X10_farOfEnd 0 rfl) rfl rfl ?_
  refine x_iload_n (tk K_X10_farOfEnd 1 rfl) rfl rfl ?_
  refine x_iload_n (tk K_X10_farOfEnd 2 rfl) rfl rfl ?_
  refine x_callV0 (As := [vI _, vI _]) (S := []) (tk K_X10_farOfEnd 3 rfl) mk_X10_191 mo_X10_landWithLawful (TpS.o hS) rfl rfl (Nat.le_of_ble_eq_true rfl) hd h (fun r M1 hq => ?_)
  obtain ⟨x1, rfl, hE, h⟩ := hq
  have hT0 := TpS.ext hS hE
  refine x_astore_n (L' := [some (vR _), some (vI _), some (vI _), some (vR _)]) (tk K_X10_farOfEnd 4 rfl) rfl rfl (Nat.le_of_ble_eq_true rfl) rfl ?_
  refine x_aload_n (tk K_X10_farOfEnd 5 rfl) rfl rfl ?_
  refine x_ifnonnull (t := 15) (tk K_X10_farOfEnd 6 rfl) rfl (fun hc => ?_) (fun hc => ?_)
  · have h := h.1 hc
    refine x_aload_n (tk K_X10_farOfEnd 9 rfl) rfl rfl ?_
    refine x_aload_n (tk K_X10_farOfEnd 10 rfl) rfl rfl ?_
    refine x_aload_n (tk K_X10_farOfEnd 11 rfl) rfl rfl ?_
    refine x_getRc (tk K_X10_farOfEnd 12 rfl) f_X10_108 rfl (TpS.o hT0) (TpS.r16 hT0) ?_
    refine x_iconst (tk K_X10_farOfEnd 13 rfl) ic_0 ?_
    have hS_2 := h.1
    have h := h.2
    refine x_callV0 (As := [vR _, vI _]) (S := [vR _]) (tk K_X10_farOfEnd 14 rfl) mk_X10_198 mo_X3_wins (LaS.o hS_2) rfl rfl (Nat.le_of_ble_eq_true rfl) hd h (fun r M2 hq => ?_)
    obtain ⟨x2, rfl, hE, h⟩ := hq
    have hT1 := TpS.ext hT0 hE
    have hT2 := LaS.ext hS_2 hE
    have hT3 := hE.1 _ _ _ (TpS.k16 hT0)
    refine x_iconst (tk K_X10_farOfEnd 15 rfl) ic_0 ?_
    refine x_callV0 (As := [vI _, vI _]) (S := []) (tk K_X10_farOfEnd 16 rfl) mk_X10_228 mo_X3_farUpper (LaS.o hT2) rfl rfl (Nat.le_of_ble_eq_true rfl) hd h (fun r M3 hq => ?_)
    obtain ⟨x3, rfl, hE, h⟩ := hq
    have hT4 := TpS.ext hT1 hE
    have hT5 := LaS.ext hT2 hE
    have hT6 := hE.1 _ _ _ hT3
    exact x_ireturn (tk K_X10_farOfEnd 17 rfl) rfl rfl h
  · have h := h.2 hc
    refine x_iconst (tk K_X10_farOfEnd 7 rfl) ic_m1 ?_
    refine x_goto (t := 29) (tk K_X10_farOfEnd 8 rfl) rfl ?_
    exact x_ireturn (tk K_X10_farOfEnd 17 rfl) rfl rfl h

theorem e_X10_farOfEnd {X : Cx} {d kc ns : Nat} {M : Mem} {Q : Option AV → Mem → Prop} {a1 : Int32} {a2 : Int32} (h : WA X d kc ns m_X10_farOfEnd 0 [some (vR 1), some (vI a1), some (vI a2), none] [] M Q) : Cl X d kc ns m_X10_farOfEnd [vR 1, vI a1, vI a2] M Q := Cl.intro (k := 1) (by decide) rfl rfl h
