/-! THE LAW: its calls -/
section LCASE
variable {F : Fx} {X : Cx} {d kc ns b Ls i n : Nat} {M : Mem} {s : StT} {T : AdT} {Q : Option AV → Mem → Prop} {xs : Nat → Int32}
theorem lw_c24 (hd : 100 ≤ d) (hS : SCR F X b Ls xs) (hi : i + 5 < Ls) (hC : CI M s T) (hR : RI M s) (ho : isK M 104 20 1) (hB : BU s T (n + 1) kc ns) (hN : NXT F X d b i n Q) : WV F (zB b) X d kc ns m_L_law 1223 (LL i) [] M Q := by
  refine z_aload_n (tk K_L16 17 rfl) rfl rfl ?_
  refine z_a (k := 1) (tk K_L16 18 rfl) (tk K_L16 19 rfl) (tk K_L16 20 rfl) (tk K_L16 21 rfl) (tk K_L16 22 rfl) ic_1 hS rfl (by omega) ?_
  refine z_a (k := 2) (tk K_L16 23 rfl) (tk K_L16 24 rfl) (tk K_L16 25 rfl) (tk K_L16 26 rfl) (tk K_L16 27 rfl) ic_2 hS rfl (by omega) ?_
  refine z_callV (my := m_X10_best) (As := [vI (xs (i + 1)), vI (xs (i + 2))]) (S := []) (a := 1) (kc1 := 0) (ns1 := 0) (Q' := fun r M' => CI M' s T ∧ RI M' s ∧ isK M' 104 20 1 ∧ r = some (vI (aBest s (xs (i + 1)) (xs (i + 2))))) (tk K_L16 28 rfl) mk_L_131 mo_X10_best hC.1.1.o rfl rfl (Nat.zero_le _) (by omega) (Nat.zero_le _) (Nat.zero_le _) (kp10_best (by omega) hC (fun B hB1 hO => ⟨hB1, hR.ofr hO, hO.2.2.1 _ _ _ ho, rfl⟩)) (fun r M1 hr => ?_)
  obtain ⟨hC1, hR1, ho1, rfl⟩ := hr
  refine z_aload_n (tk K_L16 29 rfl) rfl rfl ?_
  refine z_a (k := 1) (tk K_L16 30 rfl) (tk K_L16 31 rfl) (tk K_L16 32 rfl) (tk K_L16 33 rfl) (tk K_L16 34 rfl) ic_1 hS rfl (by omega) ?_
  refine z_a (k := 2) (tk K_L16 35 rfl) (tk K_L16 36 rfl) (tk K_L16 37 rfl) (tk K_L16 38 rfl) (tk K_L16 39 rfl) ic_2 hS rfl (by omega) ?_
  refine z_callV (my := m_X11_best) (As := [vI (xs (i + 1)), vI (xs (i + 2))]) (S := [vI (aBest s (xs (i + 1)) (xs (i + 2)))]) (a := 75) (kc1 := 0) (ns1 := 0) (Q' := fun r M' => CI M' s T ∧ RI M' s ∧ isK M' 104 20 1 ∧ r = some (vI (aBest s (xs (i + 1)) (xs (i + 2))))) (tk K_L16 40 rfl) mk_L_134 mo_X11_best hR1.1.o rfl rfl (Nat.le_of_ble_eq_true rfl) (by omega) (Nat.zero_le _) (Nat.zero_le _) (rf_best (by omega) hR1 (fun B hF hR2 => ⟨hC1.rf (sc_rf hF), hR2, hF.ext.1 _ _ _ ho1, rfl⟩)) (fun r M2 hr => ?_)
  obtain ⟨hC2, hR2, ho2, rfl⟩ := hr
  exact z_icmp_eq (t := 1544) (tk K_L16 41 rfl) rfl (fun _ => hN s T M2 _ _ hC2 hR2 ho2 (hB.same cntE.refl)) (fun q => absurd rfl q)
theorem lw_c25 (hd : 100 ≤ d) (hS : SCR F X b Ls xs) (hi : i + 5 < Ls) (hC : CI M s T) (hR : RI M s) (ho : isK M 104 20 1) (hB : BU s T (n + 1) kc ns) (hN : NXT F X d b i n Q) : WV F (zB b) X d kc ns m_L_law 1260 (LL i) [] M Q := by
  refine z_aload_n (tk K_L16 44 rfl) rfl rfl ?_
  refine z_a (k := 1) (tk K_L16 45 rfl) (tk K_L16 46 rfl) (tk K_L16 47 rfl) (tk K_L17 0 rfl) (tk K_L17 1 rfl) ic_1 hS rfl (by omega) ?_
  refine z_a (k := 2) (tk K_L17 2 rfl) (tk K_L17 3 rfl) (tk K_L17 4 rfl) (tk K_L17 5 rfl) (tk K_L17 6 rfl) ic_2 hS rfl (by omega) ?_
  refine z_callV (my := m_X10_value) (As := [vI (xs (i + 1)), vI (xs (i + 2))]) (S := []) (a := 1) (kc1 := 0) (ns1 := 0) (Q' := fun r M' => CI M' s T ∧ RI M' s ∧ isK M' 104 20 1 ∧ r = some (vI (aValue s (xs (i + 1)) (xs (i + 2))))) (tk K_L17 7 rfl) mk_L_135 mo_X10_value hC.1.1.o rfl rfl (Nat.zero_le _) (by omega) (Nat.zero_le _) (Nat.zero_le _) (kp10_value (by omega) hC (fun B hB1 hO => ⟨hB1, hR.ofr hO, hO.2.2.1 _ _ _ ho, rfl⟩)) (fun r M1 hr => ?_)
  obtain ⟨hC1, hR1, ho1, rfl⟩ := hr
  refine z_aload_n (tk K_L17 8 rfl) rfl rfl ?_
  refine z_a (k := 1) (tk K_L17 9 rfl) (tk K_L17 10 rfl) (tk K_L17 11 rfl) (tk K_L17 12 rfl) (tk K_L17 13 rfl) ic_1 hS rfl (by omega) ?_
  refine z_a (k := 2) (tk K_L17 14 rfl) (tk K_L17 15 rfl) (tk K_L17 16 rfl) (tk K_L17 17 rfl) (tk K_L17 18 rfl) ic_2 hS rfl (by omega) ?_
  refine z_callV (my := m_X11_value) (As := [vI (xs (i + 1)), vI (xs (i + 2))]) (S := [vI (aValue s (xs (i + 1)) (xs (i + 2)))]) (a := 75) (kc1 := 0) (ns1 := 0) (Q' := fun r M' => CI M' s T ∧ RI M' s ∧ isK M' 104 20 1 ∧ r = some (vI (aValue s (xs (i + 1)) (xs (i + 2))))) (tk K_L17 19 rfl) mk_L_138 mo_X11_value hR1.1.o rfl rfl (Nat.le_of_ble_eq_true rfl) (by omega) (Nat.zero_le _) (Nat.zero_le _) (rf_value (by omega) hR1 (fun B hF hR2 => ⟨hC1.rf (sc_rf hF), hR2, hF.ext.1 _ _ _ ho1, rfl⟩)) (fun r M2 hr => ?_)
  obtain ⟨hC2, hR2, ho2, rfl⟩ := hr
  exact z_icmp_eq (t := 1544) (tk K_L17 20 rfl) rfl (fun _ => hN s T M2 _ _ hC2 hR2 ho2 (hB.same cntE.refl)) (fun q => absurd rfl q)
theorem lw_c26 (hd : 100 ≤ d) (hS : SCR F X b Ls xs) (hi : i + 5 < Ls) (hC : CI M s T) (hR : RI M s) (ho : isK M 104 20 1) (hB : BU s T (n + 1) kc ns) (hN : NXT F X d b i n Q) : WV F (zB b) X d kc ns m_L_law 1297 (LL i) [] M Q := by
  refine z_aload_n (tk K_L17 23 rfl) rfl rfl ?_
  refine z_a (k := 1) (tk K_L17 24 rfl) (tk K_L17 25 rfl) (tk K_L17 26 rfl) (tk K_L17 27 rfl) (tk K_L17 28 rfl) ic_1 hS rfl (by omega) ?_
  refine z_a (k := 2) (tk K_L17 29 rfl) (tk K_L17 30 rfl) (tk K_L17 31 rfl) (tk K_L17 32 rfl) (tk K_L17 33 rfl) ic_2 hS rfl (by omega) ?_
  refine z_callV (my := m_X10_kept) (As := [vI (xs (i + 1)), vI (xs (i + 2))]) (S := []) (a := 1) (kc1 := 0) (ns1 := 0) (Q' := fun r M' => CI M' s T ∧ RI M' s ∧ isK M' 104 20 1 ∧ r = some (vI (aKept s (xs (i + 1)) (xs (i + 2))))) (tk K_L17 34 rfl) mk_L_139 mo_X10_kept hC.1.1.o rfl rfl (Nat.zero_le _) (by omega) (Nat.zero_le _) (Nat.zero_le _) (kp10_kept (by omega) hC (fun B hB1 hO => ⟨hB1, hR.ofr hO, hO.2.2.1 _ _ _ ho, rfl⟩)) (fun r M1 hr => ?_)
  obtain ⟨hC1, hR1, ho1, rfl⟩ := hr
  refine z_aload_n (tk K_L17 35 rfl) rfl rfl ?_
  refine z_a (k := 1) (tk K_L17 36 rfl) (tk K_L17 37 rfl) (tk K_L17 38 rfl) (tk K_L17 39 rfl) (tk K_L17 40 rfl) ic_1 hS rfl (by omega) ?_
  refine z_a (k := 2) (tk K_L17 41 rfl) (tk K_L17 42 rfl) (tk K_L17 43 rfl) (tk K_L17 44 rfl) (tk K_L17 45 rfl) ic_2 hS rfl (by omega) ?_
  refine z_callV (my := m_X11_kept) (As := [vI (xs (i + 1)), vI (xs (i + 2))]) (S := [vI (aKept s (xs (i + 1)) (xs (i + 2)))]) (a := 75) (kc1 := 0) (ns1 := 0) (Q' := fun r M' => CI M' s T ∧ RI M' s ∧ isK M' 104 20 1 ∧ r = some (vI (aKept s (xs (i + 1)) (xs (i + 2))))) (tk K_L17 46 rfl) mk_L_142 mo_X11_kept hR1.1.o rfl rfl (Nat.le_of_ble_eq_true rfl) (by omega) (Nat.zero_le _) (Nat.zero_le _) (rf_kept (by omega) hR1 (fun B hF hR2 => ⟨hC1.rf (sc_rf hF), hR2, hF.ext.1 _ _ _ ho1, rfl⟩)) (fun r M2 hr => ?_)
  obtain ⟨hC2, hR2, ho2, rfl⟩ := hr
  exact z_icmp_eq (t := 1544) (tk K_L17 47 rfl) rfl (fun _ => hN s T M2 _ _ hC2 hR2 ho2 (hB.same cntE.refl)) (fun q => absurd rfl q)
theorem lw_c27 (hd : 100 ≤ d) (hS : SCR F X b Ls xs) (hi : i + 5 < Ls) (hC : CI M s T) (hR : RI M s) (ho : isK M 104 20 1) (hB : BU s T (n + 1) kc ns) (hN : NXT F X d b i n Q) : WV F (zB b) X d kc ns m_L_law 1334 (LL i) [] M Q := by
  refine z_aload_n (tk K_L18 2 rfl) rfl rfl ?_
  refine z_a (k := 1) (tk K_L18 3 rfl) (tk K_L18 4 rfl) (tk K_L18 5 rfl) (tk K_L18 6 rfl) (tk K_L18 7 rfl) ic_1 hS rfl (by omega) ?_
  refine z_a (k := 2) (tk K_L18 8 rfl) (tk K_L18 9 rfl) (tk K_L18 10 rfl) (tk K_L18 11 rfl) (tk K_L18 12 rfl) ic_2 hS rfl (by omega) ?_
  refine z_a (k := 3) (tk K_L18 13 rfl) (tk K_L18 14 rfl) (tk K_L18 15 rfl) (tk K_L18 16 rfl) (tk K_L18 17 rfl) ic_3 hS rfl (by omega) ?_
  refine z_callV (my := m_X10_sure) (As := [vI (xs (i + 1)), vI (xs (i + 2)), vI (xs (i + 3))]) (S := []) (a := 1) (kc1 := 0) (ns1 := 0) (Q' := fun r M' => CI M' s T ∧ RI M' s ∧ isK M' 104 20 1 ∧ r = some (vI (aSure s (xs (i + 1)) (xs (i + 2)) (xs (i + 3))))) (tk K_L18 18 rfl) mk_L_143 mo_X10_sure hC.1.1.o rfl rfl (Nat.zero_le _) (by omega) (Nat.zero_le _) (Nat.zero_le _) (kp10_sure (by omega) hC (fun B hB1 hO => ⟨hB1, hR.ofr hO, hO.2.2.1 _ _ _ ho, rfl⟩)) (fun r M1 hr => ?_)
  obtain ⟨hC1, hR1, ho1, rfl⟩ := hr
  refine z_aload_n (tk K_L18 19 rfl) rfl rfl ?_
  refine z_a (k := 1) (tk K_L18 20 rfl) (tk K_L18 21 rfl) (tk K_L18 22 rfl) (tk K_L18 23 rfl) (tk K_L18 24 rfl) ic_1 hS rfl (by omega) ?_
  refine z_a (k := 2) (tk K_L18 25 rfl) (tk K_L18 26 rfl) (tk K_L18 27 rfl) (tk K_L18 28 rfl) (tk K_L18 29 rfl) ic_2 hS rfl (by omega) ?_
  refine z_a (k := 3) (tk K_L18 30 rfl) (tk K_L18 31 rfl) (tk K_L18 32 rfl) (tk K_L18 33 rfl) (tk K_L18 34 rfl) ic_3 hS rfl (by omega) ?_
  refine z_callV (my := m_X11_sure) (As := [vI (xs (i + 1)), vI (xs (i + 2)), vI (xs (i + 3))]) (S := [vI (aSure s (xs (i + 1)) (xs (i + 2)) (xs (i + 3)))]) (a := 75) (kc1 := 0) (ns1 := 0) (Q' := fun r M' => CI M' s T ∧ RI M' s ∧ isK M' 104 20 1 ∧ r = some (vI (aSure s (xs (i + 1)) (xs (i + 2)) (xs (i + 3))))) (tk K_L18 35 rfl) mk_L_146 mo_X11_sure hR1.1.o rfl rfl (Nat.le_of_ble_eq_true rfl) (by omega) (Nat.zero_le _) (Nat.zero_le _) (rf_sure (by omega) hR1 (fun B hF hR2 => ⟨hC1.rf (sc_rf hF), hR2, hF.ext.1 _ _ _ ho1, rfl⟩)) (fun r M2 hr => ?_)
  obtain ⟨hC2, hR2, ho2, rfl⟩ := hr
  exact z_icmp_eq (t := 1544) (tk K_L18 36 rfl) rfl (fun _ => hN s T M2 _ _ hC2 hR2 ho2 (hB.same cntE.refl)) (fun q => absurd rfl q)
theorem lw_c28 (hd : 100 ≤ d) (hS : SCR F X b Ls xs) (hi : i + 5 < Ls) (hC : CI M s T) (hR : RI M s) (ho : isK M 104 20 1) (hB : BU s T (n + 1) kc ns) (hN : NXT F X d b i n Q) : WV F (zB b) X d kc ns m_L_law 1383 (LL i) [] M Q := by
  refine z_aload_n (tk K_L18 39 rfl) rfl rfl ?_
  refine z_a (k := 1) (tk K_L18 40 rfl) (tk K_L18 41 rfl) (tk K_L18 42 rfl) (tk K_L18 43 rfl) (tk K_L18 44 rfl) ic_1 hS rfl (by omega) ?_
  refine z_a (k := 2) (tk K_L18 45 rfl) (tk K_L18 46 rfl) (tk K_L18 47 rfl) (tk K_L19 0 rfl) (tk K_L19 1 rfl) ic_2 hS rfl (by omega) ?_
  refine z_callV (my := m_X10_ended) (As := [vI (xs (i + 1)), vI (xs (i + 2))]) (S := []) (a := 1) (kc1 := 0) (ns1 := 0) (Q' := fun r M' => CI M' s T ∧ RI M' s ∧ isK M' 104 20 1 ∧ r = some (vI (aEnded s (xs (i + 1)) (xs (i + 2))))) (tk K_L19 2 rfl) mk_L_147 mo_X10_ended hC.1.1.o rfl rfl (Nat.zero_le _) (by omega) (Nat.zero_le _) (Nat.zero_le _) (kp10_ended (by omega) hC (fun B hB1 hO => ⟨hB1, hR.ofr hO, hO.2.2.1 _ _ _ ho, rfl⟩)) (fun r M1 hr => ?_)
  obtain ⟨hC1, hR1, ho1, rfl⟩ := hr
  refine z_aload_n (tk K_L19 3 rfl) rfl rfl ?_
  refine z_a (k := 1) (tk K_L19 4 rfl) (tk K_L19 5 rfl) (tk K_L19 6 rfl) (tk K_L19 7 rfl) (tk K_L19 8 rfl) ic_1 hS rfl (by omega) ?_
  refine z_a (k := 2) (tk K_L19 9 rfl) (tk K_L19 10 rfl) (tk K_L19 11 rfl) (tk K_L19 12 rfl) (tk K_L19 13 rfl) ic_2 hS rfl (by omega) ?_
  refine z_callV (my := m_X11_ended) (As := [vI (xs (i + 1)), vI (xs (i + 2))]) (S := [vI (aEnded s (xs (i + 1)) (xs (i + 2)))]) (a := 75) (kc1 := 0) (ns1 := 0) (Q' := fun r M' => CI M' s T ∧ RI M' s ∧ isK M' 104 20 1 ∧ r = some (vI (aEnded s (xs (i + 1)) (xs (i + 2))))) (tk K_L19 14 rfl) mk_L_150 mo_X11_ended hR1.1.o rfl rfl (Nat.le_of_ble_eq_true rfl) (by omega) (Nat.zero_le _) (Nat.zero_le _) (rf_ended (by omega) hR1 (fun B hF hR2 => ⟨hC1.rf (sc_rf hF), hR2, hF.ext.1 _ _ _ ho1, rfl⟩)) (fun r M2 hr => ?_)
  obtain ⟨hC2, hR2, ho2, rfl⟩ := hr
  exact z_icmp_eq (t := 1544) (tk K_L19 15 rfl) rfl (fun _ => hN s T M2 _ _ hC2 hR2 ho2 (hB.same cntE.refl)) (fun q => absurd rfl q)
theorem lw_c29 (hd : 100 ≤ d) (hS : SCR F X b Ls xs) (hi : i + 5 < Ls) (hC : CI M s T) (hR : RI M s) (ho : isK M 104 20 1) (hB : BU s T (n + 1) kc ns) (hN : NXT F X d b i n Q) : WV F (zB b) X d kc ns m_L_law 1420 (LL i) [] M Q := by
  refine z_aload_n (tk K_L19 18 rfl) rfl rfl ?_
  refine z_a (k := 1) (tk K_L19 19 rfl) (tk K_L19 20 rfl) (tk K_L19 21 rfl) (tk K_L19 22 rfl) (tk K_L19 23 rfl) ic_1 hS rfl (by omega) ?_
  refine z_a (k := 2) (tk K_L19 24 rfl) (tk K_L19 25 rfl) (tk K_L19 26 rfl) (tk K_L19 27 rfl) (tk K_L19 28 rfl) ic_2 hS rfl (by omega) ?_
  refine z_callV (my := m_X10_first) (As := [vI (xs (i + 1)), vI (xs (i + 2))]) (S := []) (a := 1) (kc1 := 0) (ns1 := 0) (Q' := fun r M' => CI M' s T ∧ RI M' s ∧ isK M' 104 20 1 ∧ r = some (vI (aFirst s (xs (i + 1)) (xs (i + 2))))) (tk K_L19 29 rfl) mk_L_151 mo_X10_first hC.1.1.o rfl rfl (Nat.zero_le _) (by omega) (Nat.zero_le _) (Nat.zero_le _) (kp10_first (by omega) hC (fun B hB1 hO => ⟨hB1, hR.ofr hO, hO.2.2.1 _ _ _ ho, rfl⟩)) (fun r M1 hr => ?_)
  obtain ⟨hC1, hR1, ho1, rfl⟩ := hr
  refine z_aload_n (tk K_L19 30 rfl) rfl rfl ?_
  refine z_a (k := 1) (tk K_L19 31 rfl) (tk K_L19 32 rfl) (tk K_L19 33 rfl) (tk K_L19 34 rfl) (tk K_L19 35 rfl) ic_1 hS rfl (by omega) ?_
  refine z_a (k := 2) (tk K_L19 36 rfl) (tk K_L19 37 rfl) (tk K_L19 38 rfl) (tk K_L19 39 rfl) (tk K_L19 40 rfl) ic_2 hS rfl (by omega) ?_
  refine z_callV (my := m_X11_first) (As := [vI (xs (i + 1)), vI (xs (i + 2))]) (S := [vI (aFirst s (xs (i + 1)) (xs (i + 2)))]) (a := 75) (kc1 := 0) (ns1 := 0) (Q' := fun r M' => CI M' s T ∧ RI M' s ∧ isK M' 104 20 1 ∧ r = some (vI (aFirst s (xs (i + 1)) (xs (i + 2))))) (tk K_L19 41 rfl) mk_L_154 mo_X11_first hR1.1.o rfl rfl (Nat.le_of_ble_eq_true rfl) (by omega) (Nat.zero_le _) (Nat.zero_le _) (rf_first (by omega) hR1 (fun B hF hR2 => ⟨hC1.rf (sc_rf hF), hR2, hF.ext.1 _ _ _ ho1, rfl⟩)) (fun r M2 hr => ?_)
  obtain ⟨hC2, hR2, ho2, rfl⟩ := hr
  exact z_icmp_eq (t := 1544) (tk K_L19 42 rfl) rfl (fun _ => hN s T M2 _ _ hC2 hR2 ho2 (hB.same cntE.refl)) (fun q => absurd rfl q)
theorem lw_c30 (hd : 100 ≤ d) (hS : SCR F X b Ls xs) (hi : i + 5 < Ls) (hC : CI M s T) (hR : RI M s) (ho : isK M 104 20 1) (hB : BU s T (n + 1) kc ns) (hN : NXT F X d b i n Q) : WV F (zB b) X d kc ns m_L_law 1457 (LL i) [] M Q := by
  refine z_aload_n (tk K_L19 45 rfl) rfl rfl ?_
  refine z_a (k := 1) (tk K_L19 46 rfl) (tk K_L19 47 rfl) (tk K_L20 0 rfl) (tk K_L20 1 rfl) (tk K_L20 2 rfl) ic_1 hS rfl (by omega) ?_
  refine z_callV (my := m_X10_worst) (As := [vI (xs (i + 1))]) (S := []) (a := 1) (kc1 := 0) (ns1 := 0) (Q' := fun r M' => CI M' s T ∧ RI M' s ∧ isK M' 104 20 1 ∧ r = some (vI (aWorst s (xs (i + 1))))) (tk K_L20 3 rfl) mk_L_155 mo_X10_worst hC.1.1.o rfl rfl (Nat.zero_le _) (by omega) (Nat.zero_le _) (Nat.zero_le _) (kp10_worst (by omega) hC (fun B hB1 hO => ⟨hB1, hR.ofr hO, hO.2.2.1 _ _ _ ho, rfl⟩)) (fun r M1 hr => ?_)
  obtain ⟨hC1, hR1, ho1, rfl⟩ := hr
  refine z_aload_n (tk K_L20 4 rfl) rfl rfl ?_
  refine z_a (k := 1) (tk K_L20 5 rfl) (tk K_L20 6 rfl) (tk K_L20 7 rfl) (tk K_L20 8 rfl) (tk K_L20 9 rfl) ic_1 hS rfl (by omega) ?_
  refine z_callV (my := m_X11_worst) (As := [vI (xs (i + 1))]) (S := [vI (aWorst s (xs (i + 1)))]) (a := 75) (kc1 := 0) (ns1 := 0) (Q' := fun r M' => CI M' s T ∧ RI M' s ∧ isK M' 104 20 1 ∧ r = some (vI (aWorst s (xs (i + 1))))) (tk K_L20 10 rfl) mk_L_158 mo_X11_worst hR1.1.o rfl rfl (Nat.le_of_ble_eq_true rfl) (by omega) (Nat.zero_le _) (Nat.zero_le _) (rf_worst (by omega) hR1 (fun B hF hR2 => ⟨hC1.rf hF, hR2, hF.ext.1 _ _ _ ho1, rfl⟩)) (fun r M2 hr => ?_)
  obtain ⟨hC2, hR2, ho2, rfl⟩ := hr
  exact z_icmp_eq (t := 1544) (tk K_L20 11 rfl) rfl (fun _ => hN s T M2 _ _ hC2 hR2 ho2 (hB.same cntE.refl)) (fun q => absurd rfl q)
theorem lw_c31 (hd : 100 ≤ d) (hS : SCR F X b Ls xs) (hi : i + 5 < Ls) (hC : CI M s T) (hR : RI M s) (ho : isK M 104 20 1) (hB : BU s T (n + 1) kc ns) (hN : NXT F X d b i n Q) : WV F (zB b) X d kc ns m_L_law 1482 (LL i) [] M Q := by
  refine z_aload_n (tk K_L20 14 rfl) rfl rfl ?_
  refine z_a (k := 1) (tk K_L20 15 rfl) (tk K_L20 16 rfl) (tk K_L20 17 rfl) (tk K_L20 18 rfl) (tk K_L20 19 rfl) ic_1 hS rfl (by omega) ?_
  refine z_a (k := 2) (tk K_L20 20 rfl) (tk K_L20 21 rfl) (tk K_L20 22 rfl) (tk K_L20 23 rfl) (tk K_L20 24 rfl) ic_2 hS rfl (by omega) ?_
  refine z_callV (my := m_X10_worse) (As := [vI (xs (i + 1)), vI (xs (i + 2))]) (S := []) (a := 1) (kc1 := 0) (ns1 := 0) (Q' := fun r M' => CI M' s T ∧ RI M' s ∧ isK M' 104 20 1 ∧ r = some (vI (aWorse s (xs (i + 1)) (xs (i + 2))))) (tk K_L20 25 rfl) mk_L_159 mo_X10_worse hC.1.1.o rfl rfl (Nat.zero_le _) (by omega) (Nat.zero_le _) (Nat.zero_le _) (kp10_worse (by omega) hC (fun B hB1 hO => ⟨hB1, hR.ofr hO, hO.2.2.1 _ _ _ ho, rfl⟩)) (fun r M1 hr => ?_)
  obtain ⟨hC1, hR1, ho1, rfl⟩ := hr
  refine z_aload_n (tk K_L20 26 rfl) rfl rfl ?_
  refine z_a (k := 1) (tk K_L20 27 rfl) (tk K_L20 28 rfl) (tk K_L20 29 rfl) (tk K_L20 30 rfl) (tk K_L20 31 rfl) ic_1 hS rfl (by omega) ?_
  refine z_a (k := 2) (tk K_L20 32 rfl) (tk K_L20 33 rfl) (tk K_L20 34 rfl) (tk K_L20 35 rfl) (tk K_L20 36 rfl) ic_2 hS rfl (by omega) ?_
  refine z_callV (my := m_X11_worse) (As := [vI (xs (i + 1)), vI (xs (i + 2))]) (S := [vI (aWorse s (xs (i + 1)) (xs (i + 2)))]) (a := 75) (kc1 := 0) (ns1 := 0) (Q' := fun r M' => CI M' s T ∧ RI M' s ∧ isK M' 104 20 1 ∧ r = some (vI (aWorse s (xs (i + 1)) (xs (i + 2))))) (tk K_L20 37 rfl) mk_L_162 mo_X11_worse hR1.1.o rfl rfl (Nat.le_of_ble_eq_true rfl) (by omega) (Nat.zero_le _) (Nat.zero_le _) (rf_worse (by omega) hR1 (fun B hF hR2 => ⟨hC1.rf hF, hR2, hF.ext.1 _ _ _ ho1, rfl⟩)) (fun r M2 hr => ?_)
  obtain ⟨hC2, hR2, ho2, rfl⟩ := hr
  exact z_icmp_eq (t := 1544) (tk K_L20 38 rfl) rfl (fun _ => hN s T M2 _ _ hC2 hR2 ho2 (hB.same cntE.refl)) (fun q => absurd rfl q)
theorem lw_c32 (hd : 100 ≤ d) (hS : SCR F X b Ls xs) (hi : i + 5 < Ls) (hC : CI M s T) (hR : RI M s) (ho : isK M 104 20 1) (hB : BU s T (n + 1) kc ns) (hN : NXT F X d b i n Q) : WV F (zB b) X d kc ns m_L_law 1519 (LL i) [] M Q := by
  refine z_aload_n (tk K_L20 41 rfl) rfl rfl ?_
  refine z_a (k := 1) (tk K_L20 42 rfl) (tk K_L20 43 rfl) (tk K_L20 44 rfl) (tk K_L20 45 rfl) (tk K_L20 46 rfl) ic_1 hS rfl (by omega) ?_
  refine z_callV (my := m_X10_count) (As := [vI (xs (i + 1))]) (S := []) (a := 1) (kc1 := 0) (ns1 := 0) (Q' := fun r M' => CI M' s T ∧ RI M' s ∧ isK M' 104 20 1 ∧ r = some (vI (aCount s (xs (i + 1))))) (tk K_L20 47 rfl) mk_L_163 mo_X10_count hC.1.1.o rfl rfl (Nat.zero_le _) (by omega) (Nat.zero_le _) (Nat.zero_le _) (kp10_count (by omega) hC (fun B hB1 hO => ⟨hB1, hR.ofr hO, hO.2.2.1 _ _ _ ho, rfl⟩)) (fun r M1 hr => ?_)
  obtain ⟨hC1, hR1, ho1, rfl⟩ := hr
  refine z_aload_n (tk K_L21 0 rfl) rfl rfl ?_
  refine z_a (k := 1) (tk K_L21 1 rfl) (tk K_L21 2 rfl) (tk K_L21 3 rfl) (tk K_L21 4 rfl) (tk K_L21 5 rfl) ic_1 hS rfl (by omega) ?_
  refine z_callV (my := m_X11_count) (As := [vI (xs (i + 1))]) (S := [vI (aCount s (xs (i + 1)))]) (a := 75) (kc1 := 0) (ns1 := 0) (Q' := fun r M' => CI M' s T ∧ RI M' s ∧ isK M' 104 20 1 ∧ r = some (vI (aCount s (xs (i + 1))))) (tk K_L21 6 rfl) mk_L_166 mo_X11_count hR1.1.o rfl rfl (Nat.le_of_ble_eq_true rfl) (by omega) (Nat.zero_le _) (Nat.zero_le _) (rf_count (by omega) hR1 (fun B hF hR2 => ⟨hC1.rf (sc_rf hF), hR2, hF.ext.1 _ _ _ ho1, rfl⟩)) (fun r M2 hr => ?_)
  obtain ⟨hC2, hR2, ho2, rfl⟩ := hr
  exact z_icmp_eq (t := 1544) (tk K_L21 7 rfl) rfl (fun _ => hN s T M2 _ _ hC2 hR2 ho2 (hB.same cntE.refl)) (fun q => absurd rfl q)
end LCASE
