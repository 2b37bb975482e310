/-! THE LAW: its calls -/
section LCASE
variable {F : Fx} {X : Cx} {d kc ns b Ls i n : Nat} {M : Mem} {s : StT} {T : AdT} {Q : Option AV → Mem → Prop} {xs : Nat → Int32}
theorem lw_c7 (hd : 100 ≤ d) (hS : SCR F X b Ls xs) (hi : i + 5 < Ls) (hC : CI M s T) (hR : RI M s) (ho : isK M 104 20 1) (hB : BU s T (n + 1) kc ns) (hN : NXT F X d b i n Q) : WV F (zB b) X d kc ns m_L_law 454 (LL i) [] M Q := by
  refine z_aload_n (tk K_L4 20 rfl) rfl rfl ?_
  refine z_a (k := 1) (tk K_L4 21 rfl) (tk K_L4 22 rfl) (tk K_L4 23 rfl) (tk K_L4 24 rfl) (tk K_L4 25 rfl) ic_1 hS rfl (by omega) ?_
  refine z_a (k := 2) (tk K_L4 26 rfl) (tk K_L4 27 rfl) (tk K_L4 28 rfl) (tk K_L4 29 rfl) (tk K_L4 30 rfl) ic_2 hS rfl (by omega) ?_
  refine z_a (k := 3) (tk K_L4 31 rfl) (tk K_L4 32 rfl) (tk K_L4 33 rfl) (tk K_L4 34 rfl) (tk K_L4 35 rfl) ic_3 hS rfl (by omega) ?_
  refine z_a (k := 4) (tk K_L4 36 rfl) (tk K_L4 37 rfl) (tk K_L4 38 rfl) (tk K_L4 39 rfl) (tk K_L4 40 rfl) ic_4 hS rfl (by omega) ?_
  refine z_callV (my := m_X10_vote) (As := [vI (xs (i + 1)), vI (xs (i + 2)), vI (xs (i + 3)), vI (xs (i + 4))]) (S := []) (a := 1) (kc1 := 0) (ns1 := 0) (Q' := fun r M' => CI M' (voteS s (xs (i + 1)) (xs (i + 2)) (xs (i + 3)) (xs (i + 4))) T ∧ RI M' s ∧ isK M' 104 20 1 ∧ r = some (vI (aVote s (xs (i + 1)) (xs (i + 2)) (xs (i + 3)) (xs (i + 4))))) (tk K_L4 41 rfl) mk_L_57 mo_X10_vote hC.1.1.o rfl rfl (Nat.zero_le _) (by omega) (Nat.zero_le _) (Nat.zero_le _) (kp10_vote (by omega) hC (fun B hB1 hO => ⟨hB1, hR.ofr hO, hO.2.2.1 _ _ _ ho, rfl⟩)) (fun r M1 hr => ?_)
  obtain ⟨hC1, hR1, ho1, rfl⟩ := hr
  refine z_aload_n (tk K_L4 42 rfl) rfl rfl ?_
  refine z_a (k := 1) (tk K_L4 43 rfl) (tk K_L4 44 rfl) (tk K_L4 45 rfl) (tk K_L4 46 rfl) (tk K_L4 47 rfl) ic_1 hS rfl (by omega) ?_
  refine z_a (k := 2) (tk K_L5 0 rfl) (tk K_L5 1 rfl) (tk K_L5 2 rfl) (tk K_L5 3 rfl) (tk K_L5 4 rfl) ic_2 hS rfl (by omega) ?_
  refine z_a (k := 3) (tk K_L5 5 rfl) (tk K_L5 6 rfl) (tk K_L5 7 rfl) (tk K_L5 8 rfl) (tk K_L5 9 rfl) ic_3 hS rfl (by omega) ?_
  refine z_a (k := 4) (tk K_L5 10 rfl) (tk K_L5 11 rfl) (tk K_L5 12 rfl) (tk K_L5 13 rfl) (tk K_L5 14 rfl) ic_4 hS rfl (by omega) ?_
  refine z_callV (my := m_X11_vote) (As := [vI (xs (i + 1)), vI (xs (i + 2)), vI (xs (i + 3)), vI (xs (i + 4))]) (S := [vI (aVote s (xs (i + 1)) (xs (i + 2)) (xs (i + 3)) (xs (i + 4)))]) (a := 75) (kc1 := 0) (ns1 := 0) (Q' := fun r M' => CI M' (voteS s (xs (i + 1)) (xs (i + 2)) (xs (i + 3)) (xs (i + 4))) T ∧ RI M' (voteS s (xs (i + 1)) (xs (i + 2)) (xs (i + 3)) (xs (i + 4))) ∧ isK M' 104 20 1 ∧ r = some (vI (aVote s (xs (i + 1)) (xs (i + 2)) (xs (i + 3)) (xs (i + 4))))) (tk K_L5 15 rfl) mk_L_61 mo_X11_vote hR1.1.o rfl rfl (Nat.le_of_ble_eq_true rfl) (by omega) (Nat.zero_le _) (Nat.zero_le _) (rf_vote (by omega) hR1 (fun B hF hR2 => ⟨hC1.rf hF, hR2, hF.ext.1 _ _ _ ho1, rfl⟩)) (fun r M2 hr => ?_)
  obtain ⟨hC2, hR2, ho2, rfl⟩ := hr
  exact z_icmp_eq (t := 1544) (tk K_L5 16 rfl) rfl (fun _ => hN (voteS s (xs (i + 1)) (xs (i + 2)) (xs (i + 3)) (xs (i + 4))) T M2 _ _ hC2 hR2 ho2 (hB.same cnt_vote)) (fun q => absurd rfl q)
theorem lw_c8 (hd : 100 ≤ d) (hS : SCR F X b Ls xs) (hi : i + 5 < Ls) (hC : CI M s T) (hR : RI M s) (ho : isK M 104 20 1) (hB : BU s T (n + 1) kc ns) (hN : NXT F X d b i n Q) : WV F (zB b) X d kc ns m_L_law 515 (LL i) [] M Q := by
  refine z_aload_n (tk K_L5 19 rfl) rfl rfl ?_
  refine z_a (k := 1) (tk K_L5 20 rfl) (tk K_L5 21 rfl) (tk K_L5 22 rfl) (tk K_L5 23 rfl) (tk K_L5 24 rfl) ic_1 hS rfl (by omega) ?_
  refine z_a (k := 2) (tk K_L5 25 rfl) (tk K_L5 26 rfl) (tk K_L5 27 rfl) (tk K_L5 28 rfl) (tk K_L5 29 rfl) ic_2 hS rfl (by omega) ?_
  refine z_callV (my := m_X10_judge) (As := [vI (xs (i + 1)), vI (xs (i + 2))]) (S := []) (a := 1) (kc1 := 0) (ns1 := 0) (Q' := fun r M' => CI M' s T ∧ RI M' s ∧ isK M' 104 20 1 ∧ r = some (vI (aJudge (sNl s) (sLs s) (xs (i + 1)) (xs (i + 2))))) (tk K_L5 30 rfl) mk_L_62 mo_X10_judge hC.1.1.o rfl rfl (Nat.zero_le _) (by omega) (Nat.zero_le _) (Nat.zero_le _) (kp10_judge (by omega) hC (fun B hB1 hO => ⟨hB1, hR.ofr hO, hO.2.2.1 _ _ _ ho, rfl⟩)) (fun r M1 hr => ?_)
  obtain ⟨hC1, hR1, ho1, rfl⟩ := hr
  refine z_aload_n (tk K_L5 31 rfl) rfl rfl ?_
  refine z_a (k := 1) (tk K_L5 32 rfl) (tk K_L5 33 rfl) (tk K_L5 34 rfl) (tk K_L5 35 rfl) (tk K_L5 36 rfl) ic_1 hS rfl (by omega) ?_
  refine z_a (k := 2) (tk K_L5 37 rfl) (tk K_L5 38 rfl) (tk K_L5 39 rfl) (tk K_L5 40 rfl) (tk K_L5 41 rfl) ic_2 hS rfl (by omega) ?_
  refine z_callV (my := m_X11_judge) (As := [vI (xs (i + 1)), vI (xs (i + 2))]) (S := [vI (aJudge (sNl s) (sLs s) (xs (i + 1)) (xs (i + 2)))]) (a := 75) (kc1 := 0) (ns1 := 0) (Q' := fun r M' => CI M' s T ∧ RI M' s ∧ isK M' 104 20 1 ∧ r = some (vI (aJudge (sNl s) (sLs s) (xs (i + 1)) (xs (i + 2))))) (tk K_L5 42 rfl) mk_L_65 mo_X11_judge hR1.1.o rfl rfl (Nat.le_of_ble_eq_true rfl) (by omega) (Nat.zero_le _) (Nat.zero_le _) (rf_judge (by omega) hR1.1 hR1.lds (fun B hF => ⟨hC1.rf (sc_rf hF), hR1.sc hF, hF.ext.1 _ _ _ ho1, rfl⟩)) (fun r M2 hr => ?_)
  obtain ⟨hC2, hR2, ho2, rfl⟩ := hr
  exact z_icmp_eq (t := 1544) (tk K_L5 43 rfl) rfl (fun _ => hN s T M2 _ _ hC2 hR2 ho2 (hB.same cntE.refl)) (fun q => absurd rfl q)
theorem lw_c9 (hd : 100 ≤ d) (hS : SCR F X b Ls xs) (hi : i + 5 < Ls) (hC : CI M s T) (hR : RI M s) (ho : isK M 104 20 1) (hB : BU s T (n + 1) kc ns) (hN : NXT F X d b i n Q) : WV F (zB b) X d kc ns m_L_law 552 (LL i) [] M Q := by
  refine z_aload_n (tk K_L5 46 rfl) rfl rfl ?_
  refine z_a (k := 1) (tk K_L5 47 rfl) (tk K_L6 0 rfl) (tk K_L6 1 rfl) (tk K_L6 2 rfl) (tk K_L6 3 rfl) ic_1 hS rfl (by omega) ?_
  refine z_a (k := 2) (tk K_L6 4 rfl) (tk K_L6 5 rfl) (tk K_L6 6 rfl) (tk K_L6 7 rfl) (tk K_L6 8 rfl) ic_2 hS rfl (by omega) ?_
  refine z_a (k := 3) (tk K_L6 9 rfl) (tk K_L6 10 rfl) (tk K_L6 11 rfl) (tk K_L6 12 rfl) (tk K_L6 13 rfl) ic_3 hS rfl (by omega) ?_
  refine z_callV (my := m_X10_won) (As := [vI (xs (i + 1)), vI (xs (i + 2)), vI (xs (i + 3))]) (S := []) (a := 1) (kc1 := 0) (ns1 := 0) (Q' := fun r M' => CI M' s T ∧ RI M' s ∧ isK M' 104 20 1 ∧ r = some (vI (aWon (sNl s) (sLs s) (xs (i + 1)) (xs (i + 2)) (xs (i + 3))))) (tk K_L6 14 rfl) mk_L_66 mo_X10_won hC.1.1.o rfl rfl (Nat.zero_le _) (by omega) (Nat.zero_le _) (Nat.zero_le _) (kp10_won (by omega) hC (fun B hB1 hO => ⟨hB1, hR.ofr hO, hO.2.2.1 _ _ _ ho, rfl⟩)) (fun r M1 hr => ?_)
  obtain ⟨hC1, hR1, ho1, rfl⟩ := hr
  refine z_aload_n (tk K_L6 15 rfl) rfl rfl ?_
  refine z_a (k := 1) (tk K_L6 16 rfl) (tk K_L6 17 rfl) (tk K_L6 18 rfl) (tk K_L6 19 rfl) (tk K_L6 20 rfl) ic_1 hS rfl (by omega) ?_
  refine z_a (k := 2) (tk K_L6 21 rfl) (tk K_L6 22 rfl) (tk K_L6 23 rfl) (tk K_L6 24 rfl) (tk K_L6 25 rfl) ic_2 hS rfl (by omega) ?_
  refine z_a (k := 3) (tk K_L6 26 rfl) (tk K_L6 27 rfl) (tk K_L6 28 rfl) (tk K_L6 29 rfl) (tk K_L6 30 rfl) ic_3 hS rfl (by omega) ?_
  refine z_callV (my := m_X11_won) (As := [vI (xs (i + 1)), vI (xs (i + 2)), vI (xs (i + 3))]) (S := [vI (aWon (sNl s) (sLs s) (xs (i + 1)) (xs (i + 2)) (xs (i + 3)))]) (a := 75) (kc1 := 0) (ns1 := 0) (Q' := fun r M' => CI M' s T ∧ RI M' s ∧ isK M' 104 20 1 ∧ r = some (vI (aWon (sNl s) (sLs s) (xs (i + 1)) (xs (i + 2)) (xs (i + 3))))) (tk K_L6 31 rfl) mk_L_69 mo_X11_won hR1.1.o rfl rfl (Nat.le_of_ble_eq_true rfl) (by omega) (Nat.zero_le _) (Nat.zero_le _) (rf_won (by omega) hR1.1 hR1.lds (fun B hF => ⟨hC1.rf (sc_rf hF), hR1.sc hF, hF.ext.1 _ _ _ ho1, rfl⟩)) (fun r M2 hr => ?_)
  obtain ⟨hC2, hR2, ho2, rfl⟩ := hr
  exact z_icmp_eq (t := 1544) (tk K_L6 32 rfl) rfl (fun _ => hN s T M2 _ _ hC2 hR2 ho2 (hB.same cntE.refl)) (fun q => absurd rfl q)
theorem lw_c10 (hd : 100 ≤ d) (hS : SCR F X b Ls xs) (hi : i + 5 < Ls) (hC : CI M s T) (hR : RI M s) (ho : isK M 104 20 1) (hB : BU s T (n + 1) kc ns) (hN : NXT F X d b i n Q) : WV F (zB b) X d kc ns m_L_law 601 (LL i) [] M Q := by
  refine z_aload_n (tk K_L6 35 rfl) rfl rfl ?_
  refine z_a (k := 1) (tk K_L6 36 rfl) (tk K_L6 37 rfl) (tk K_L6 38 rfl) (tk K_L6 39 rfl) (tk K_L6 40 rfl) ic_1 hS rfl (by omega) ?_
  refine z_a (k := 2) (tk K_L6 41 rfl) (tk K_L6 42 rfl) (tk K_L6 43 rfl) (tk K_L6 44 rfl) (tk K_L6 45 rfl) ic_2 hS rfl (by omega) ?_
  refine z_a (k := 3) (tk K_L6 46 rfl) (tk K_L6 47 rfl) (tk K_L7 0 rfl) (tk K_L7 1 rfl) (tk K_L7 2 rfl) ic_3 hS rfl (by omega) ?_
  refine z_callV (my := m_X10_seats) (As := [vI (xs (i + 1)), vI (xs (i + 2)), vI (xs (i + 3))]) (S := []) (a := 1) (kc1 := 0) (ns1 := 0) (Q' := fun r M' => CI M' s T ∧ RI M' s ∧ isK M' 104 20 1 ∧ r = some (vI (aSeats (sNl s) (sLs s) (xs (i + 1)) (xs (i + 2)) (xs (i + 3))))) (tk K_L7 3 rfl) mk_L_70 mo_X10_seats hC.1.1.o rfl rfl (Nat.zero_le _) (by omega) (Nat.zero_le _) (Nat.zero_le _) (kp10_seats (by omega) hC (fun B hB1 hO => ⟨hB1, hR.ofr hO, hO.2.2.1 _ _ _ ho, rfl⟩)) (fun r M1 hr => ?_)
  obtain ⟨hC1, hR1, ho1, rfl⟩ := hr
  refine z_aload_n (tk K_L7 4 rfl) rfl rfl ?_
  refine z_a (k := 1) (tk K_L7 5 rfl) (tk K_L7 6 rfl) (tk K_L7 7 rfl) (tk K_L7 8 rfl) (tk K_L7 9 rfl) ic_1 hS rfl (by omega) ?_
  refine z_a (k := 2) (tk K_L7 10 rfl) (tk K_L7 11 rfl) (tk K_L7 12 rfl) (tk K_L7 13 rfl) (tk K_L7 14 rfl) ic_2 hS rfl (by omega) ?_
  refine z_a (k := 3) (tk K_L7 15 rfl) (tk K_L7 16 rfl) (tk K_L7 17 rfl) (tk K_L7 18 rfl) (tk K_L7 19 rfl) ic_3 hS rfl (by omega) ?_
  refine z_callV (my := m_X11_seats) (As := [vI (xs (i + 1)), vI (xs (i + 2)), vI (xs (i + 3))]) (S := [vI (aSeats (sNl s) (sLs s) (xs (i + 1)) (xs (i + 2)) (xs (i + 3)))]) (a := 75) (kc1 := 0) (ns1 := 0) (Q' := fun r M' => CI M' s T ∧ RI M' s ∧ isK M' 104 20 1 ∧ r = some (vI (aSeats (sNl s) (sLs s) (xs (i + 1)) (xs (i + 2)) (xs (i + 3))))) (tk K_L7 20 rfl) mk_L_73 mo_X11_seats hR1.1.o rfl rfl (Nat.le_of_ble_eq_true rfl) (by omega) (Nat.zero_le _) (Nat.zero_le _) (rf_seats (by omega) hR1.1 hR1.lds (fun B hF => ⟨hC1.rf (sc_rf hF), hR1.sc hF, hF.ext.1 _ _ _ ho1, rfl⟩)) (fun r M2 hr => ?_)
  obtain ⟨hC2, hR2, ho2, rfl⟩ := hr
  exact z_icmp_eq (t := 1544) (tk K_L7 21 rfl) rfl (fun _ => hN s T M2 _ _ hC2 hR2 ho2 (hB.same cntE.refl)) (fun q => absurd rfl q)
theorem lw_c11 (hd : 100 ≤ d) (hS : SCR F X b Ls xs) (hi : i + 5 < Ls) (hC : CI M s T) (hR : RI M s) (ho : isK M 104 20 1) (hB : BU s T (n + 1) kc ns) (hN : NXT F X d b i n Q) : WV F (zB b) X d kc ns m_L_law 650 (LL i) [] M Q := by
  refine z_aload_n (tk K_L7 24 rfl) rfl rfl ?_
  refine z_a (k := 1) (tk K_L7 25 rfl) (tk K_L7 26 rfl) (tk K_L7 27 rfl) (tk K_L7 28 rfl) (tk K_L7 29 rfl) ic_1 hS rfl (by omega) ?_
  refine z_a (k := 2) (tk K_L7 30 rfl) (tk K_L7 31 rfl) (tk K_L7 32 rfl) (tk K_L7 33 rfl) (tk K_L7 34 rfl) ic_2 hS rfl (by omega) ?_
  obtain ⟨hk1, hk2, hk3⟩ := hB.roll hC (o := (inN (xs (i + 1)) (sNl s))) (fun k hk => inN_lt hk)
  refine z_callV (my := m_X10_all) (As := [vI (xs (i + 1)), vI (xs (i + 2))]) (S := []) (a := 1) (kc1 := (roC T (inN (xs (i + 1)) (sNl s)))) (ns1 := (roN s T (inN (xs (i + 1)) (sNl s)))) (Q' := fun r M' => ∃ T', CI M' s T' ∧ RI M' s ∧ isK M' 104 20 1 ∧ BU s T' n (kc - (roC T (inN (xs (i + 1)) (sNl s)))) (ns - (roN s T (inN (xs (i + 1)) (sNl s)))) ∧ r = some (vI (aAll (sNl s) (sLs s) (xs (i + 1)) (xs (i + 2))))) (tk K_L7 35 rfl) mk_L_74 mo_X10_all hC.1.1.o rfl rfl (Nat.zero_le _) (by omega) hk1 hk2 (kp10_all (by omega) hC (fun k hk => by rw [hk]; exact ⟨Nat.le_refl _, Nat.le_refl _⟩) (fun B T' hB1 hO hT hs => ⟨T', hB1, hR.ofr hO, hO.2.2.1 _ _ _ ho, hk3 T' hT hs, rfl⟩)) (fun r M1 hr => ?_)
  obtain ⟨T1, hC1, hR1, ho1, hB1, rfl⟩ := hr
  refine z_aload_n (tk K_L7 36 rfl) rfl rfl ?_
  refine z_a (k := 1) (tk K_L7 37 rfl) (tk K_L7 38 rfl) (tk K_L7 39 rfl) (tk K_L7 40 rfl) (tk K_L7 41 rfl) ic_1 hS rfl (by omega) ?_
  refine z_a (k := 2) (tk K_L7 42 rfl) (tk K_L7 43 rfl) (tk K_L7 44 rfl) (tk K_L7 45 rfl) (tk K_L7 46 rfl) ic_2 hS rfl (by omega) ?_
  refine z_callV (my := m_X11_all) (As := [vI (xs (i + 1)), vI (xs (i + 2))]) (S := [vI (aAll (sNl s) (sLs s) (xs (i + 1)) (xs (i + 2)))]) (a := 75) (kc1 := 0) (ns1 := 0) (Q' := fun r M' => CI M' s T1 ∧ RI M' s ∧ isK M' 104 20 1 ∧ r = some (vI (aAll (sNl s) (sLs s) (xs (i + 1)) (xs (i + 2))))) (tk K_L7 47 rfl) mk_L_77 mo_X11_all hR1.1.o rfl rfl (Nat.le_of_ble_eq_true rfl) (by omega) (Nat.zero_le _) (Nat.zero_le _) (rf_all (by omega) hR1.1 hR1.lds (fun B hF => ⟨hC1.rf (sc_rf hF), hR1.sc hF, hF.ext.1 _ _ _ ho1, rfl⟩)) (fun r M2 hr => ?_)
  obtain ⟨hC2, hR2, ho2, rfl⟩ := hr
  exact z_icmp_eq (t := 1544) (tk K_L8 0 rfl) rfl (fun _ => hN s T1 M2 _ _ hC2 hR2 ho2 hB1) (fun q => absurd rfl q)
theorem lw_c12 (hd : 100 ≤ d) (hS : SCR F X b Ls xs) (hi : i + 5 < Ls) (hC : CI M s T) (hR : RI M s) (ho : isK M 104 20 1) (hB : BU s T (n + 1) kc ns) (hN : NXT F X d b i n Q) : WV F (zB b) X d kc ns m_L_law 687 (LL i) [] M Q := by
  refine z_aload_n (tk K_L8 3 rfl) rfl rfl ?_
  refine z_a (k := 1) (tk K_L8 4 rfl) (tk K_L8 5 rfl) (tk K_L8 6 rfl) (tk K_L8 7 rfl) (tk K_L8 8 rfl) ic_1 hS rfl (by omega) ?_
  refine z_a (k := 2) (tk K_L8 9 rfl) (tk K_L8 10 rfl) (tk K_L8 11 rfl) (tk K_L8 12 rfl) (tk K_L8 13 rfl) ic_2 hS rfl (by omega) ?_
  refine z_a (k := 3) (tk K_L8 14 rfl) (tk K_L8 15 rfl) (tk K_L8 16 rfl) (tk K_L8 17 rfl) (tk K_L8 18 rfl) ic_3 hS rfl (by omega) ?_
  obtain ⟨hk1, hk2, hk3⟩ := hB.roll hC (o := (cAlone s (xs (i + 1)) (xs (i + 2)) (xs (i + 3)))) (fun k hk => alone_lt hk)
  refine z_callV (my := m_X10_alone) (As := [vI (xs (i + 1)), vI (xs (i + 2)), vI (xs (i + 3))]) (S := []) (a := 1) (kc1 := (roC T (cAlone s (xs (i + 1)) (xs (i + 2)) (xs (i + 3))))) (ns1 := (roN s T (cAlone s (xs (i + 1)) (xs (i + 2)) (xs (i + 3))))) (Q' := fun r M' => ∃ T', CI M' s T' ∧ RI M' s ∧ isK M' 104 20 1 ∧ BU s T' n (kc - (roC T (cAlone s (xs (i + 1)) (xs (i + 2)) (xs (i + 3))))) (ns - (roN s T (cAlone s (xs (i + 1)) (xs (i + 2)) (xs (i + 3))))) ∧ r = some (vI (aAlone (sNl s) (sLs s) (xs (i + 1)) (xs (i + 2)) (xs (i + 3))))) (tk K_L8 19 rfl) mk_L_78 mo_X10_alone hC.1.1.o rfl rfl (Nat.zero_le _) (by omega) hk1 hk2 (kp10_alone (by omega) hC (fun k hk => by rw [hk]; exact ⟨Nat.le_refl _, Nat.le_refl _⟩) (fun B T' hB1 hO hT hs => ⟨T', hB1, hR.ofr hO, hO.2.2.1 _ _ _ ho, hk3 T' hT hs, rfl⟩)) (fun r M1 hr => ?_)
  obtain ⟨T1, hC1, hR1, ho1, hB1, rfl⟩ := hr
  refine z_aload_n (tk K_L8 20 rfl) rfl rfl ?_
  refine z_a (k := 1) (tk K_L8 21 rfl) (tk K_L8 22 rfl) (tk K_L8 23 rfl) (tk K_L8 24 rfl) (tk K_L8 25 rfl) ic_1 hS rfl (by omega) ?_
  refine z_a (k := 2) (tk K_L8 26 rfl) (tk K_L8 27 rfl) (tk K_L8 28 rfl) (tk K_L8 29 rfl) (tk K_L8 30 rfl) ic_2 hS rfl (by omega) ?_
  refine z_a (k := 3) (tk K_L8 31 rfl) (tk K_L8 32 rfl) (tk K_L8 33 rfl) (tk K_L8 34 rfl) (tk K_L8 35 rfl) ic_3 hS rfl (by omega) ?_
  refine z_callV (my := m_X11_alone) (As := [vI (xs (i + 1)), vI (xs (i + 2)), vI (xs (i + 3))]) (S := [vI (aAlone (sNl s) (sLs s) (xs (i + 1)) (xs (i + 2)) (xs (i + 3)))]) (a := 75) (kc1 := 0) (ns1 := 0) (Q' := fun r M' => CI M' s T1 ∧ RI M' s ∧ isK M' 104 20 1 ∧ r = some (vI (aAlone (sNl s) (sLs s) (xs (i + 1)) (xs (i + 2)) (xs (i + 3))))) (tk K_L8 36 rfl) mk_L_81 mo_X11_alone hR1.1.o rfl rfl (Nat.le_of_ble_eq_true rfl) (by omega) (Nat.zero_le _) (Nat.zero_le _) (rf_alone (by omega) hR1.1 hR1.lds (fun B hF => ⟨hC1.rf (sc_rf hF), hR1.sc hF, hF.ext.1 _ _ _ ho1, rfl⟩)) (fun r M2 hr => ?_)
  obtain ⟨hC2, hR2, ho2, rfl⟩ := hr
  exact z_icmp_eq (t := 1544) (tk K_L8 37 rfl) rfl (fun _ => hN s T1 M2 _ _ hC2 hR2 ho2 hB1) (fun q => absurd rfl q)
theorem lw_c13 (hd : 100 ≤ d) (hS : SCR F X b Ls xs) (hi : i + 5 < Ls) (hC : CI M s T) (hR : RI M s) (ho : isK M 104 20 1) (hB : BU s T (n + 1) kc ns) (hN : NXT F X d b i n Q) : WV F (zB b) X d kc ns m_L_law 736 (LL i) [] M Q := by
  refine z_aload_n (tk K_L8 40 rfl) rfl rfl ?_
  refine z_a (k := 1) (tk K_L8 41 rfl) (tk K_L8 42 rfl) (tk K_L8 43 rfl) (tk K_L8 44 rfl) (tk K_L8 45 rfl) ic_1 hS rfl (by omega) ?_
  refine z_a (k := 2) (tk K_L8 46 rfl) (tk K_L8 47 rfl) (tk K_L9 0 rfl) (tk K_L9 1 rfl) (tk K_L9 2 rfl) ic_2 hS rfl (by omega) ?_
  refine z_a (k := 3) (tk K_L9 3 rfl) (tk K_L9 4 rfl) (tk K_L9 5 rfl) (tk K_L9 6 rfl) (tk K_L9 7 rfl) ic_3 hS rfl (by omega) ?_
  refine z_a (k := 4) (tk K_L9 8 rfl) (tk K_L9 9 rfl) (tk K_L9 10 rfl) (tk K_L9 11 rfl) (tk K_L9 12 rfl) ic_4 hS rfl (by omega) ?_
  obtain ⟨hk1, hk2, hk3⟩ := hB.roll hC (o := (cLuck s (xs (i + 1)) (xs (i + 2)) (xs (i + 3)) (xs (i + 4)))) (fun k hk => luck_lt hk)
  refine z_callV (my := m_X10_luck) (As := [vI (xs (i + 1)), vI (xs (i + 2)), vI (xs (i + 3)), vI (xs (i + 4))]) (S := []) (a := 1) (kc1 := (roC T (cLuck s (xs (i + 1)) (xs (i + 2)) (xs (i + 3)) (xs (i + 4))))) (ns1 := (roN s T (cLuck s (xs (i + 1)) (xs (i + 2)) (xs (i + 3)) (xs (i + 4))))) (Q' := fun r M' => ∃ T', CI M' s T' ∧ RI M' s ∧ isK M' 104 20 1 ∧ BU s T' n (kc - (roC T (cLuck s (xs (i + 1)) (xs (i + 2)) (xs (i + 3)) (xs (i + 4))))) (ns - (roN s T (cLuck s (xs (i + 1)) (xs (i + 2)) (xs (i + 3)) (xs (i + 4))))) ∧ r = some (vI (aLuck (sNl s) (sLs s) (xs (i + 1)) (xs (i + 2)) (xs (i + 3)) (xs (i + 4))))) (tk K_L9 13 rfl) mk_L_82 mo_X10_luck hC.1.1.o rfl rfl (Nat.zero_le _) (by omega) hk1 hk2 (kp10_luck (by omega) hC (fun k hk => by rw [hk]; exact ⟨Nat.le_refl _, Nat.le_refl _⟩) (fun B T' hB1 hO hT hs => ⟨T', hB1, hR.ofr hO, hO.2.2.1 _ _ _ ho, hk3 T' hT hs, rfl⟩)) (fun r M1 hr => ?_)
  obtain ⟨T1, hC1, hR1, ho1, hB1, rfl⟩ := hr
  refine z_aload_n (tk K_L9 14 rfl) rfl rfl ?_
  refine z_a (k := 1) (tk K_L9 15 rfl) (tk K_L9 16 rfl) (tk K_L9 17 rfl) (tk K_L9 18 rfl) (tk K_L9 19 rfl) ic_1 hS rfl (by omega) ?_
  refine z_a (k := 2) (tk K_L9 20 rfl) (tk K_L9 21 rfl) (tk K_L9 22 rfl) (tk K_L9 23 rfl) (tk K_L9 24 rfl) ic_2 hS rfl (by omega) ?_
  refine z_a (k := 3) (tk K_L9 25 rfl) (tk K_L9 26 rfl) (tk K_L9 27 rfl) (tk K_L9 28 rfl) (tk K_L9 29 rfl) ic_3 hS rfl (by omega) ?_
  refine z_a (k := 4) (tk K_L9 30 rfl) (tk K_L9 31 rfl) (tk K_L9 32 rfl) (tk K_L9 33 rfl) (tk K_L9 34 rfl) ic_4 hS rfl (by omega) ?_
  refine z_callV (my := m_X11_luck) (As := [vI (xs (i + 1)), vI (xs (i + 2)), vI (xs (i + 3)), vI (xs (i + 4))]) (S := [vI (aLuck (sNl s) (sLs s) (xs (i + 1)) (xs (i + 2)) (xs (i + 3)) (xs (i + 4)))]) (a := 75) (kc1 := 0) (ns1 := 0) (Q' := fun r M' => CI M' s T1 ∧ RI M' s ∧ isK M' 104 20 1 ∧ r = some (vI (aLuck (sNl s) (sLs s) (xs (i + 1)) (xs (i + 2)) (xs (i + 3)) (xs (i + 4))))) (tk K_L9 35 rfl) mk_L_86 mo_X11_luck hR1.1.o rfl rfl (Nat.le_of_ble_eq_true rfl) (by omega) (Nat.zero_le _) (Nat.zero_le _) (rf_luck (by omega) hR1.1 hR1.lds (fun B hF => ⟨hC1.rf (sc_rf hF), hR1.sc hF, hF.ext.1 _ _ _ ho1, rfl⟩)) (fun r M2 hr => ?_)
  obtain ⟨hC2, hR2, ho2, rfl⟩ := hr
  exact z_icmp_eq (t := 1544) (tk K_L9 36 rfl) rfl (fun _ => hN s T1 M2 _ _ hC2 hR2 ho2 hB1) (fun q => absurd rfl q)
theorem lw_c14 (hd : 100 ≤ d) (hS : SCR F X b Ls xs) (hi : i + 5 < Ls) (hC : CI M s T) (hR : RI M s) (ho : isK M 104 20 1) (hB : BU s T (n + 1) kc ns) (hN : NXT F X d b i n Q) : WV F (zB b) X d kc ns m_L_law 797 (LL i) [] M Q := by
  refine z_aload_n (tk K_L9 39 rfl) rfl rfl ?_
  refine z_a (k := 1) (tk K_L9 40 rfl) (tk K_L9 41 rfl) (tk K_L9 42 rfl) (tk K_L9 43 rfl) (tk K_L9 44 rfl) ic_1 hS rfl (by omega) ?_
  refine z_a (k := 2) (tk K_L9 45 rfl) (tk K_L9 46 rfl) (tk K_L9 47 rfl) (tk K_L10 0 rfl) (tk K_L10 1 rfl) ic_2 hS rfl (by omega) ?_
  refine z_a (k := 3) (tk K_L10 2 rfl) (tk K_L10 3 rfl) (tk K_L10 4 rfl) (tk K_L10 5 rfl) (tk K_L10 6 rfl) ic_3 hS rfl (by omega) ?_
  refine z_a (k := 4) (tk K_L10 7 rfl) (tk K_L10 8 rfl) (tk K_L10 9 rfl) (tk K_L10 10 rfl) (tk K_L10 11 rfl) ic_4 hS rfl (by omega) ?_
  refine z_callV (my := m_X10_far) (As := [vI (xs (i + 1)), vI (xs (i + 2)), vI (xs (i + 3)), vI (xs (i + 4))]) (S := []) (a := 1) (kc1 := 0) (ns1 := 0) (Q' := fun r M' => CI M' s T ∧ RI M' s ∧ isK M' 104 20 1 ∧ r = some (vI (aFar (sNl s) (sLs s) (xs (i + 1)) (xs (i + 2)) (xs (i + 3)) (xs (i + 4))))) (tk K_L10 12 rfl) mk_L_87 mo_X10_far hC.1.1.o rfl rfl (Nat.zero_le _) (by omega) (Nat.zero_le _) (Nat.zero_le _) (kp10_far (by omega) hC (fun B hB1 hO => ⟨hB1, hR.ofr hO, hO.2.2.1 _ _ _ ho, rfl⟩)) (fun r M1 hr => ?_)
  obtain ⟨hC1, hR1, ho1, rfl⟩ := hr
  refine z_aload_n (tk K_L10 13 rfl) rfl rfl ?_
  refine z_a (k := 1) (tk K_L10 14 rfl) (tk K_L10 15 rfl) (tk K_L10 16 rfl) (tk K_L10 17 rfl) (tk K_L10 18 rfl) ic_1 hS rfl (by omega) ?_
  refine z_a (k := 2) (tk K_L10 19 rfl) (tk K_L10 20 rfl) (tk K_L10 21 rfl) (tk K_L10 22 rfl) (tk K_L10 23 rfl) ic_2 hS rfl (by omega) ?_
  refine z_a (k := 3) (tk K_L10 24 rfl) (tk K_L10 25 rfl) (tk K_L10 26 rfl) (tk K_L10 27 rfl) (tk K_L10 28 rfl) ic_3 hS rfl (by omega) ?_
  refine z_a (k := 4) (tk K_L10 29 rfl) (tk K_L10 30 rfl) (tk K_L10 31 rfl) (tk K_L10 32 rfl) (tk K_L10 33 rfl) ic_4 hS rfl (by omega) ?_
  refine z_callV (my := m_X11_far) (As := [vI (xs (i + 1)), vI (xs (i + 2)), vI (xs (i + 3)), vI (xs (i + 4))]) (S := [vI (aFar (sNl s) (sLs s) (xs (i + 1)) (xs (i + 2)) (xs (i + 3)) (xs (i + 4)))]) (a := 75) (kc1 := 0) (ns1 := 0) (Q' := fun r M' => CI M' s T ∧ RI M' s ∧ isK M' 104 20 1 ∧ r = some (vI (aFar (sNl s) (sLs s) (xs (i + 1)) (xs (i + 2)) (xs (i + 3)) (xs (i + 4))))) (tk K_L10 34 rfl) mk_L_90 mo_X11_far hR1.1.o rfl rfl (Nat.le_of_ble_eq_true rfl) (by omega) (Nat.zero_le _) (Nat.zero_le _) (rf_far (by omega) hR1.1 hR1.lds (fun B hF => ⟨hC1.rf (sc_rf hF), hR1.sc hF, hF.ext.1 _ _ _ ho1, rfl⟩)) (fun r M2 hr => ?_)
  obtain ⟨hC2, hR2, ho2, rfl⟩ := hr
  exact z_icmp_eq (t := 1544) (tk K_L10 35 rfl) rfl (fun _ => hN s T M2 _ _ hC2 hR2 ho2 (hB.same cntE.refl)) (fun q => absurd rfl q)
end LCASE
