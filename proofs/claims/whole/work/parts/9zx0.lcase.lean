/-! THE LAW: its calls -/
section LCASE
variable {F : Fx} {X : Cx} {d kc ns b Ls i n : Nat} {M : Mem} {s : StT} {T : AdT} {Q : Option AV → Mem → Prop} {xs : Nat → Int32}
theorem lw_c0 (hd : 100 ≤ d) (hS : SCR F X b Ls xs) (hi : i + 5 < Ls) (hC : CI M s T) (hR : RI M s) (ho : isK M 104 20 1) (hB : BU s T (n + 1) kc ns) (hN : NXT F X d b i n Q) : WV F (zB b) X d kc ns m_L_law 188 (LL i) [] M Q := by
  refine z_aload_n (tk K_L0 25 rfl) rfl rfl ?_
  refine z_a (k := 1) (tk K_L0 26 rfl) (tk K_L0 27 rfl) (tk K_L0 28 rfl) (tk K_L0 29 rfl) (tk K_L0 30 rfl) ic_1 hS rfl (by omega) ?_
  refine z_a (k := 2) (tk K_L0 31 rfl) (tk K_L0 32 rfl) (tk K_L0 33 rfl) (tk K_L0 34 rfl) (tk K_L0 35 rfl) ic_2 hS rfl (by omega) ?_
  refine z_a (k := 3) (tk K_L0 36 rfl) (tk K_L0 37 rfl) (tk K_L0 38 rfl) (tk K_L0 39 rfl) (tk K_L0 40 rfl) ic_3 hS rfl (by omega) ?_
  refine z_a (k := 4) (tk K_L0 41 rfl) (tk K_L0 42 rfl) (tk K_L0 43 rfl) (tk K_L0 44 rfl) (tk K_L0 45 rfl) ic_4 hS rfl (by omega) ?_
  refine z_a (k := 5) (tk K_L0 46 rfl) (tk K_L0 47 rfl) (tk K_L1 0 rfl) (tk K_L1 1 rfl) (tk K_L1 2 rfl) ic_5 hS rfl (by omega) ?_
  refine z_callV (my := m_X10_feed) (As := [vI (xs (i + 1)), vI (xs (i + 2)), vI (xs (i + 3)), vI (xs (i + 4)), vI (xs (i + 5))]) (S := []) (a := 1) (kc1 := 0) (ns1 := 0) (Q' := fun r M' => CI M' (fedS s (xs (i + 1)) (xs (i + 2)) (xs (i + 3)) (xs (i + 4)) (xs (i + 5))) T ∧ RI M' s ∧ isK M' 104 20 1 ∧ r = some (vI (aFeed s (xs (i + 1)) (xs (i + 2)) (xs (i + 3)) (xs (i + 4)) (xs (i + 5))))) (tk K_L1 3 rfl) mk_L_19 mo_X10_feed hC.1.1.o rfl rfl (Nat.zero_le _) (by omega) (Nat.zero_le _) (Nat.zero_le _) (kp10_feed (by omega) hC (fun B hB1 hO => ⟨hB1, hR.ofr hO, hO.2.2.1 _ _ _ ho, rfl⟩)) (fun r M1 hr => ?_)
  obtain ⟨hC1, hR1, ho1, rfl⟩ := hr
  refine z_aload_n (tk K_L1 4 rfl) rfl rfl ?_
  refine z_a (k := 1) (tk K_L1 5 rfl) (tk K_L1 6 rfl) (tk K_L1 7 rfl) (tk K_L1 8 rfl) (tk K_L1 9 rfl) ic_1 hS rfl (by omega) ?_
  refine z_a (k := 2) (tk K_L1 10 rfl) (tk K_L1 11 rfl) (tk K_L1 12 rfl) (tk K_L1 13 rfl) (tk K_L1 14 rfl) ic_2 hS rfl (by omega) ?_
  refine z_a (k := 3) (tk K_L1 15 rfl) (tk K_L1 16 rfl) (tk K_L1 17 rfl) (tk K_L1 18 rfl) (tk K_L1 19 rfl) ic_3 hS rfl (by omega) ?_
  refine z_a (k := 4) (tk K_L1 20 rfl) (tk K_L1 21 rfl) (tk K_L1 22 rfl) (tk K_L1 23 rfl) (tk K_L1 24 rfl) ic_4 hS rfl (by omega) ?_
  refine z_a (k := 5) (tk K_L1 25 rfl) (tk K_L1 26 rfl) (tk K_L1 27 rfl) (tk K_L1 28 rfl) (tk K_L1 29 rfl) ic_5 hS rfl (by omega) ?_
  refine z_callV (my := m_X11_feed) (As := [vI (xs (i + 1)), vI (xs (i + 2)), vI (xs (i + 3)), vI (xs (i + 4)), vI (xs (i + 5))]) (S := [vI (aFeed s (xs (i + 1)) (xs (i + 2)) (xs (i + 3)) (xs (i + 4)) (xs (i + 5)))]) (a := 75) (kc1 := 0) (ns1 := 0) (Q' := fun r M' => CI M' (fedS s (xs (i + 1)) (xs (i + 2)) (xs (i + 3)) (xs (i + 4)) (xs (i + 5))) T ∧ RI M' (fedS s (xs (i + 1)) (xs (i + 2)) (xs (i + 3)) (xs (i + 4)) (xs (i + 5))) ∧ isK M' 104 20 1 ∧ r = some (vI (aFeed s (xs (i + 1)) (xs (i + 2)) (xs (i + 3)) (xs (i + 4)) (xs (i + 5))))) (tk K_L1 30 rfl) mk_L_23 mo_X11_feed hR1.1.o rfl rfl (Nat.le_of_ble_eq_true rfl) (by omega) (Nat.zero_le _) (Nat.zero_le _) (rf_feed (by omega) hR1 (fun B hF hR2 => ⟨hC1.rf hF, hR2, hF.ext.1 _ _ _ ho1, rfl⟩)) (fun r M2 hr => ?_)
  obtain ⟨hC2, hR2, ho2, rfl⟩ := hr
  exact z_icmp_eq (t := 1544) (tk K_L1 31 rfl) rfl (fun _ => hN (fedS s (xs (i + 1)) (xs (i + 2)) (xs (i + 3)) (xs (i + 4)) (xs (i + 5))) T M2 _ _ hC2 hR2 ho2 (hB.same cnt_fed)) (fun q => absurd rfl q)
theorem lw_c1 (hd : 100 ≤ d) (hS : SCR F X b Ls xs) (hi : i + 5 < Ls) (hC : CI M s T) (hR : RI M s) (ho : isK M 104 20 1) (hB : BU s T (n + 1) kc ns) (hN : NXT F X d b i n Q) : WV F (zB b) X d kc ns m_L_law 261 (LL i) [] M Q := by
  refine z_aload_n (tk K_L1 34 rfl) rfl rfl ?_
  refine z_a (k := 1) (tk K_L1 35 rfl) (tk K_L1 36 rfl) (tk K_L1 37 rfl) (tk K_L1 38 rfl) (tk K_L1 39 rfl) ic_1 hS rfl (by omega) ?_
  refine z_callV (my := m_X10_end) (As := [vI (xs (i + 1))]) (S := []) (a := 1) (kc1 := 0) (ns1 := 0) (Q' := fun r M' => CI M' (endS s (xs (i + 1))) T ∧ RI M' s ∧ isK M' 104 20 1 ∧ r = some (vI (aEnd s (xs (i + 1))))) (tk K_L1 40 rfl) mk_L_24 mo_X10_end hC.1.1.o rfl rfl (Nat.zero_le _) (by omega) (Nat.zero_le _) (Nat.zero_le _) (kp10_end hC (fun B hB1 hO => ⟨hB1, hR.ofr hO, hO.2.2.1 _ _ _ ho, rfl⟩)) (fun r M1 hr => ?_)
  obtain ⟨hC1, hR1, ho1, rfl⟩ := hr
  refine z_aload_n (tk K_L1 41 rfl) rfl rfl ?_
  refine z_a (k := 1) (tk K_L1 42 rfl) (tk K_L1 43 rfl) (tk K_L1 44 rfl) (tk K_L1 45 rfl) (tk K_L1 46 rfl) ic_1 hS rfl (by omega) ?_
  refine z_callV (my := m_X11_end) (As := [vI (xs (i + 1))]) (S := [vI (aEnd s (xs (i + 1)))]) (a := 75) (kc1 := 0) (ns1 := 0) (Q' := fun r M' => CI M' (endS s (xs (i + 1))) T ∧ RI M' (endS s (xs (i + 1))) ∧ isK M' 104 20 1 ∧ r = some (vI (aEnd s (xs (i + 1))))) (tk K_L1 47 rfl) mk_L_28 mo_X11_end hR1.1.o rfl rfl (Nat.le_of_ble_eq_true rfl) (by omega) (Nat.zero_le _) (Nat.zero_le _) (rf_end hR1 (fun B hF hR2 => ⟨hC1.rf hF, hR2, hF.ext.1 _ _ _ ho1, rfl⟩)) (fun r M2 hr => ?_)
  obtain ⟨hC2, hR2, ho2, rfl⟩ := hr
  exact z_icmp_eq (t := 1544) (tk K_L2 0 rfl) rfl (fun _ => hN (endS s (xs (i + 1))) T M2 _ _ hC2 hR2 ho2 (hB.same cnt_end)) (fun q => absurd rfl q)
theorem lw_c2 (hd : 100 ≤ d) (hS : SCR F X b Ls xs) (hi : i + 5 < Ls) (hC : CI M s T) (hR : RI M s) (ho : isK M 104 20 1) (hB : BU s T (n + 1) kc ns) (hN : NXT F X d b i n Q) : WV F (zB b) X d kc ns m_L_law 286 (LL i) [] M Q := by
  refine z_aload_n (tk K_L2 3 rfl) rfl rfl ?_
  refine z_a (k := 1) (tk K_L2 4 rfl) (tk K_L2 5 rfl) (tk K_L2 6 rfl) (tk K_L2 7 rfl) (tk K_L2 8 rfl) ic_1 hS rfl (by omega) ?_
  refine z_callV (my := m_X10_fault) (As := [vI (xs (i + 1))]) (S := []) (a := 1) (kc1 := 0) (ns1 := 0) (Q' := fun r M' => CI M' s T ∧ RI M' s ∧ isK M' 104 20 1 ∧ r = some (vI (aFault s (xs (i + 1))))) (tk K_L2 9 rfl) mk_L_29 mo_X10_fault hC.1.1.o rfl rfl (Nat.zero_le _) (by omega) (Nat.zero_le _) (Nat.zero_le _) (kp10_fault (by omega) hC (fun B hB1 hO => ⟨hB1, hR.ofr hO, hO.2.2.1 _ _ _ ho, rfl⟩)) (fun r M1 hr => ?_)
  obtain ⟨hC1, hR1, ho1, rfl⟩ := hr
  refine z_aload_n (tk K_L2 10 rfl) rfl rfl ?_
  refine z_a (k := 1) (tk K_L2 11 rfl) (tk K_L2 12 rfl) (tk K_L2 13 rfl) (tk K_L2 14 rfl) (tk K_L2 15 rfl) ic_1 hS rfl (by omega) ?_
  refine z_callV (my := m_X11_fault) (As := [vI (xs (i + 1))]) (S := [vI (aFault s (xs (i + 1)))]) (a := 75) (kc1 := 0) (ns1 := 0) (Q' := fun r M' => CI M' s T ∧ RI M' s ∧ isK M' 104 20 1 ∧ r = some (vI (aFault s (xs (i + 1))))) (tk K_L2 16 rfl) mk_L_33 mo_X11_fault hR1.1.o rfl rfl (Nat.le_of_ble_eq_true rfl) (by omega) (Nat.zero_le _) (Nat.zero_le _) (rf_fault (by omega) hR1 (fun B hF hR2 => ⟨hC1.rf hF, hR2, hF.ext.1 _ _ _ ho1, rfl⟩)) (fun r M2 hr => ?_)
  obtain ⟨hC2, hR2, ho2, rfl⟩ := hr
  exact z_icmp_eq (t := 1544) (tk K_L2 17 rfl) rfl (fun _ => hN s T M2 _ _ hC2 hR2 ho2 (hB.same cntE.refl)) (fun q => absurd rfl q)
theorem lw_c3 (hd : 100 ≤ d) (hS : SCR F X b Ls xs) (hi : i + 5 < Ls) (hC : CI M s T) (hR : RI M s) (ho : isK M 104 20 1) (hB : BU s T (n + 1) kc ns) (hN : NXT F X d b i n Q) : WV F (zB b) X d kc ns m_L_law 311 (LL i) [] M Q := by
  refine z_aload_n (tk K_L2 20 rfl) rfl rfl ?_
  obtain ⟨hk1, hk2, hk3⟩ := hB.land hC (k := nx M)
  refine z_callV (my := m_X10_land) (As := []) (S := []) (a := 1) (kc1 := (ldC s)) (ns1 := (ldN s)) (Q' := fun r M' => ∃ T', CI M' (landS s) T' ∧ RI M' s ∧ isK M' 104 20 1 ∧ BU (landS s) T' n (kc - (ldC s)) (ns - (ldN s)) ∧ r = some (vI (aLand s))) (tk K_L2 21 rfl) mk_L_34 mo_X10_land hC.1.1.o rfl rfl (Nat.zero_le _) (by omega) hk1 hk2 (kp10_land (by omega) hC (fun q1 q2 => by have e := ldK_iff.mpr ⟨q1, q2⟩; unfold ldC ldN; rw [if_pos e, if_pos e]; exact ⟨Nat.le_refl _, Nat.le_refl _⟩) (fun B T' hT hB1 hO => ⟨T', hB1, hR.ofr hO, hO.2.2.1 _ _ _ ho, hk3 T' hT, rfl⟩)) (fun r M1 hr => ?_)
  obtain ⟨T1, hC1, hR1, ho1, hB1, rfl⟩ := hr
  refine z_aload_n (tk K_L2 22 rfl) rfl rfl ?_
  refine z_callV (my := m_X11_land) (As := []) (S := [vI (aLand s)]) (a := 75) (kc1 := 0) (ns1 := 0) (Q' := fun r M' => CI M' (landS s) T1 ∧ RI M' (landS s) ∧ isK M' 104 20 1 ∧ r = some (vI (aLand s))) (tk K_L2 23 rfl) mk_L_38 mo_X11_land hR1.1.o rfl rfl (Nat.le_of_ble_eq_true rfl) (by omega) (Nat.zero_le _) (Nat.zero_le _) (rf_land (by omega) hR1 (fun B hF hR2 => ⟨hC1.rf hF, hR2, hF.ext.1 _ _ _ ho1, rfl⟩)) (fun r M2 hr => ?_)
  obtain ⟨hC2, hR2, ho2, rfl⟩ := hr
  exact z_icmp_eq (t := 1544) (tk K_L2 24 rfl) rfl (fun _ => hN (landS s) T1 M2 _ _ hC2 hR2 ho2 hB1) (fun q => absurd rfl q)
theorem lw_c4 (hd : 100 ≤ d) (hS : SCR F X b Ls xs) (hi : i + 5 < Ls) (hC : CI M s T) (hR : RI M s) (ho : isK M 104 20 1) (hB : BU s T (n + 1) kc ns) (hN : NXT F X d b i n Q) : WV F (zB b) X d kc ns m_L_law 324 (LL i) [] M Q := by
  refine z_aload_n (tk K_L2 27 rfl) rfl rfl ?_
  obtain ⟨hk1, hk2, hk3⟩ := hB.prot hC (k := nx M)
  refine z_callV (my := m_X10_protocol) (As := []) (S := []) (a := 1) (kc1 := (prC s)) (ns1 := (prN s)) (Q' := fun r M' => ∃ T', CI M' (protS s) T' ∧ RI M' s ∧ isK M' 104 20 1 ∧ BU (protS s) T' n (kc - (prC s)) (ns - (prN s)) ∧ r = some (vI (aProt s))) (tk K_L2 28 rfl) mk_L_39 mo_X10_protocol hC.1.1.o rfl rfl (Nat.zero_le _) (by omega) hk1 hk2 (kp10_protocol (by omega) hC (fun q1 q2 => by have e := prK_iff.mpr ⟨q1, q2⟩; unfold prC prN; rw [if_pos e, if_pos e]; exact ⟨Nat.le_refl _, Nat.le_refl _⟩) (fun B T' hT hB1 hO => ⟨T', hB1, hR.ofr hO, hO.2.2.1 _ _ _ ho, hk3 T' hT, rfl⟩)) (fun r M1 hr => ?_)
  obtain ⟨T1, hC1, hR1, ho1, hB1, rfl⟩ := hr
  refine z_aload_n (tk K_L2 29 rfl) rfl rfl ?_
  refine z_callV (my := m_X11_protocol) (As := []) (S := [vI (aProt s)]) (a := 75) (kc1 := 0) (ns1 := 0) (Q' := fun r M' => CI M' (protS s) T1 ∧ RI M' (protS s) ∧ isK M' 104 20 1 ∧ r = some (vI (aProt s))) (tk K_L2 30 rfl) mk_L_42 mo_X11_protocol hR1.1.o rfl rfl (Nat.le_of_ble_eq_true rfl) (by omega) (Nat.zero_le _) (Nat.zero_le _) (rf_protocol (by omega) hR1 (fun B hF hR2 => ⟨hC1.rf hF, hR2, hF.ext.1 _ _ _ ho1, rfl⟩)) (fun r M2 hr => ?_)
  obtain ⟨hC2, hR2, ho2, rfl⟩ := hr
  exact z_icmp_eq (t := 1544) (tk K_L2 31 rfl) rfl (fun _ => hN (protS s) T1 M2 _ _ hC2 hR2 ho2 hB1) (fun q => absurd rfl q)
theorem lw_c5 (hd : 100 ≤ d) (hS : SCR F X b Ls xs) (hi : i + 5 < Ls) (hC : CI M s T) (hR : RI M s) (ho : isK M 104 20 1) (hB : BU s T (n + 1) kc ns) (hN : NXT F X d b i n Q) : WV F (zB b) X d kc ns m_L_law 337 (LL i) [] M Q := by
  refine z_aload_n (tk K_L2 34 rfl) rfl rfl ?_
  refine z_a (k := 1) (tk K_L2 35 rfl) (tk K_L2 36 rfl) (tk K_L2 37 rfl) (tk K_L2 38 rfl) (tk K_L2 39 rfl) ic_1 hS rfl (by omega) ?_
  refine z_a (k := 2) (tk K_L2 40 rfl) (tk K_L2 41 rfl) (tk K_L2 42 rfl) (tk K_L2 43 rfl) (tk K_L2 44 rfl) ic_2 hS rfl (by omega) ?_
  refine z_callV (my := m_X10_told) (As := [vI (xs (i + 1)), vI (xs (i + 2))]) (S := []) (a := 1) (kc1 := 0) (ns1 := 0) (Q' := fun r M' => CI M' s T ∧ RI M' s ∧ isK M' 104 20 1 ∧ r = some (vI (aTold (sNl s) (sLs s) (xs (i + 1)) (xs (i + 2))))) (tk K_L2 45 rfl) mk_L_43 mo_X10_told hC.1.1.o rfl rfl (Nat.zero_le _) (by omega) (Nat.zero_le _) (Nat.zero_le _) (kp10_told (by omega) hC (fun B hB1 hO => ⟨hB1, hR.ofr hO, hO.2.2.1 _ _ _ ho, rfl⟩)) (fun r M1 hr => ?_)
  obtain ⟨hC1, hR1, ho1, rfl⟩ := hr
  refine z_aload_n (tk K_L2 46 rfl) rfl rfl ?_
  refine z_a (k := 1) (tk K_L2 47 rfl) (tk K_L3 0 rfl) (tk K_L3 1 rfl) (tk K_L3 2 rfl) (tk K_L3 3 rfl) ic_1 hS rfl (by omega) ?_
  refine z_a (k := 2) (tk K_L3 4 rfl) (tk K_L3 5 rfl) (tk K_L3 6 rfl) (tk K_L3 7 rfl) (tk K_L3 8 rfl) ic_2 hS rfl (by omega) ?_
  refine z_callV (my := m_X11_told) (As := [vI (xs (i + 1)), vI (xs (i + 2))]) (S := [vI (aTold (sNl s) (sLs s) (xs (i + 1)) (xs (i + 2)))]) (a := 75) (kc1 := 0) (ns1 := 0) (Q' := fun r M' => CI M' s T ∧ RI M' s ∧ isK M' 104 20 1 ∧ r = some (vI (aTold (sNl s) (sLs s) (xs (i + 1)) (xs (i + 2))))) (tk K_L3 9 rfl) mk_L_47 mo_X11_told hR1.1.o rfl rfl (Nat.le_of_ble_eq_true rfl) (by omega) (Nat.zero_le _) (Nat.zero_le _) (rf_told (by omega) hR1 ⟨hC1, hR1, ho1, rfl⟩) (fun r M2 hr => ?_)
  obtain ⟨hC2, hR2, ho2, rfl⟩ := hr
  exact z_icmp_eq (t := 1544) (tk K_L3 10 rfl) rfl (fun _ => hN s T M2 _ _ hC2 hR2 ho2 (hB.same cntE.refl)) (fun q => absurd rfl q)
end LCASE
