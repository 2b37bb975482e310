/-! THE LAW: its calls -/
section LCASE
variable {F : Fx} {X : Cx} {d kc ns b Ls i n : Nat} {M : Mem} {s : StT} {T : AdT} {Q : Option AV → Mem → Prop} {xs : Nat → Int32}
theorem lw_c15 (hd : 100 ≤ d) (hS : SCR F X b Ls xs) (hi : i + 5 < Ls) (hC : CI M s T) (hR : RI M s) (ho : isK M 104 20 1) (hB : BU s T (n + 1) kc ns) (hN : NXT F X d b i n Q) : WV F (zB b) X d kc ns m_L_law 858 (LL i) [] M Q := by
  refine z_aload_n (tk K_L10 38 rfl) rfl rfl ?_
  refine z_a (k := 1) (tk K_L10 39 rfl) (tk K_L10 40 rfl) (tk K_L10 41 rfl) (tk K_L10 42 rfl) (tk K_L10 43 rfl) ic_1 hS rfl (by omega) ?_
  refine z_a (k := 2) (tk K_L10 44 rfl) (tk K_L10 45 rfl) (tk K_L10 46 rfl) (tk K_L10 47 rfl) (tk K_L11 0 rfl) ic_2 hS rfl (by omega) ?_
  refine z_a (k := 3) (tk K_L11 1 rfl) (tk K_L11 2 rfl) (tk K_L11 3 rfl) (tk K_L11 4 rfl) (tk K_L11 5 rfl) ic_3 hS rfl (by omega) ?_
  refine z_callV (my := m_X10_apart) (As := [vI (xs (i + 1)), vI (xs (i + 2)), vI (xs (i + 3))]) (S := []) (a := 1) (kc1 := 0) (ns1 := 0) (Q' := fun r M' => CI M' s T ∧ RI M' s ∧ isK M' 104 20 1 ∧ r = some (vI (aApart (sNl s) (sLs s) (xs (i + 1)) (xs (i + 2)) (xs (i + 3))))) (tk K_L11 6 rfl) mk_L_91 mo_X10_apart hC.1.1.o rfl rfl (Nat.zero_le _) (by omega) (Nat.zero_le _) (Nat.zero_le _) (kp10_apart (by omega) hC (fun B hB1 hO => ⟨hB1, hR.ofr hO, hO.2.2.1 _ _ _ ho, rfl⟩)) (fun r M1 hr => ?_)
  obtain ⟨hC1, hR1, ho1, rfl⟩ := hr
  refine z_aload_n (tk K_L11 7 rfl) rfl rfl ?_
  refine z_a (k := 1) (tk K_L11 8 rfl) (tk K_L11 9 rfl) (tk K_L11 10 rfl) (tk K_L11 11 rfl) (tk K_L11 12 rfl) ic_1 hS rfl (by omega) ?_
  refine z_a (k := 2) (tk K_L11 13 rfl) (tk K_L11 14 rfl) (tk K_L11 15 rfl) (tk K_L11 16 rfl) (tk K_L11 17 rfl) ic_2 hS rfl (by omega) ?_
  refine z_a (k := 3) (tk K_L11 18 rfl) (tk K_L11 19 rfl) (tk K_L11 20 rfl) (tk K_L11 21 rfl) (tk K_L11 22 rfl) ic_3 hS rfl (by omega) ?_
  refine z_callV (my := m_X11_apart) (As := [vI (xs (i + 1)), vI (xs (i + 2)), vI (xs (i + 3))]) (S := [vI (aApart (sNl s) (sLs s) (xs (i + 1)) (xs (i + 2)) (xs (i + 3)))]) (a := 75) (kc1 := 0) (ns1 := 0) (Q' := fun r M' => CI M' s T ∧ RI M' s ∧ isK M' 104 20 1 ∧ r = some (vI (aApart (sNl s) (sLs s) (xs (i + 1)) (xs (i + 2)) (xs (i + 3))))) (tk K_L11 23 rfl) mk_L_94 mo_X11_apart hR1.1.o rfl rfl (Nat.le_of_ble_eq_true rfl) (by omega) (Nat.zero_le _) (Nat.zero_le _) (rf_apart (by omega) hR1.1 hR1.lds (fun B hF => ⟨hC1.rf (sc_rf hF), hR1.sc hF, hF.ext.1 _ _ _ ho1, rfl⟩)) (fun r M2 hr => ?_)
  obtain ⟨hC2, hR2, ho2, rfl⟩ := hr
  exact z_icmp_eq (t := 1544) (tk K_L11 24 rfl) rfl (fun _ => hN s T M2 _ _ hC2 hR2 ho2 (hB.same cntE.refl)) (fun q => absurd rfl q)
theorem lw_c16 (hd : 100 ≤ d) (hS : SCR F X b Ls xs) (hi : i + 5 < Ls) (hC : CI M s T) (hR : RI M s) (ho : isK M 104 20 1) (hB : BU s T (n + 1) kc ns) (hN : NXT F X d b i n Q) : WV F (zB b) X d kc ns m_L_law 907 (LL i) [] M Q := by
  refine z_aload_n (tk K_L11 27 rfl) rfl rfl ?_
  refine z_a (k := 1) (tk K_L11 28 rfl) (tk K_L11 29 rfl) (tk K_L11 30 rfl) (tk K_L11 31 rfl) (tk K_L11 32 rfl) ic_1 hS rfl (by omega) ?_
  refine z_a (k := 2) (tk K_L11 33 rfl) (tk K_L11 34 rfl) (tk K_L11 35 rfl) (tk K_L11 36 rfl) (tk K_L11 37 rfl) ic_2 hS rfl (by omega) ?_
  refine z_callV (my := m_X10_settled) (As := [vI (xs (i + 1)), vI (xs (i + 2))]) (S := []) (a := 1) (kc1 := 0) (ns1 := 0) (Q' := fun r M' => CI M' s T ∧ RI M' s ∧ isK M' 104 20 1 ∧ r = some (vI (aSettled (sNl s) (sLs s) (xs (i + 1)) (xs (i + 2))))) (tk K_L11 38 rfl) mk_L_95 mo_X10_settled hC.1.1.o rfl rfl (Nat.zero_le _) (by omega) (Nat.zero_le _) (Nat.zero_le _) (kp10_settled (by omega) hC (fun B hB1 hO => ⟨hB1, hR.ofr hO, hO.2.2.1 _ _ _ ho, rfl⟩)) (fun r M1 hr => ?_)
  obtain ⟨hC1, hR1, ho1, rfl⟩ := hr
  refine z_aload_n (tk K_L11 39 rfl) rfl rfl ?_
  refine z_a (k := 1) (tk K_L11 40 rfl) (tk K_L11 41 rfl) (tk K_L11 42 rfl) (tk K_L11 43 rfl) (tk K_L11 44 rfl) ic_1 hS rfl (by omega) ?_
  refine z_a (k := 2) (tk K_L11 45 rfl) (tk K_L11 46 rfl) (tk K_L11 47 rfl) (tk K_L12 0 rfl) (tk K_L12 1 rfl) ic_2 hS rfl (by omega) ?_
  refine z_callV (my := m_X11_settled) (As := [vI (xs (i + 1)), vI (xs (i + 2))]) (S := [vI (aSettled (sNl s) (sLs s) (xs (i + 1)) (xs (i + 2)))]) (a := 75) (kc1 := 0) (ns1 := 0) (Q' := fun r M' => CI M' s T ∧ RI M' s ∧ isK M' 104 20 1 ∧ r = some (vI (aSettled (sNl s) (sLs s) (xs (i + 1)) (xs (i + 2))))) (tk K_L12 2 rfl) mk_L_98 mo_X11_settled hR1.1.o rfl rfl (Nat.le_of_ble_eq_true rfl) (by omega) (Nat.zero_le _) (Nat.zero_le _) (rf_settled (by omega) hR1.1 hR1.lds (fun B hF => ⟨hC1.rf (sc_rf hF), hR1.sc hF, hF.ext.1 _ _ _ ho1, rfl⟩)) (fun r M2 hr => ?_)
  obtain ⟨hC2, hR2, ho2, rfl⟩ := hr
  exact z_icmp_eq (t := 1544) (tk K_L12 3 rfl) rfl (fun _ => hN s T M2 _ _ hC2 hR2 ho2 (hB.same cntE.refl)) (fun q => absurd rfl q)
theorem lw_c17 (hd : 100 ≤ d) (hS : SCR F X b Ls xs) (hi : i + 5 < Ls) (hC : CI M s T) (hR : RI M s) (ho : isK M 104 20 1) (hB : BU s T (n + 1) kc ns) (hN : NXT F X d b i n Q) : WV F (zB b) X d kc ns m_L_law 944 (LL i) [] M Q := by
  refine z_aload_n (tk K_L12 6 rfl) rfl rfl ?_
  refine z_a (k := 1) (tk K_L12 7 rfl) (tk K_L12 8 rfl) (tk K_L12 9 rfl) (tk K_L12 10 rfl) (tk K_L12 11 rfl) ic_1 hS rfl (by omega) ?_
  refine z_a (k := 2) (tk K_L12 12 rfl) (tk K_L12 13 rfl) (tk K_L12 14 rfl) (tk K_L12 15 rfl) (tk K_L12 16 rfl) ic_2 hS rfl (by omega) ?_
  obtain ⟨hk1, hk2, hk3⟩ := hB.roll hC (o := (cNear s (xs (i + 1)) (xs (i + 2)))) (fun k hk => near_lt hk)
  refine z_callV (my := m_X10_near) (As := [vI (xs (i + 1)), vI (xs (i + 2))]) (S := []) (a := 1) (kc1 := (roC T (cNear s (xs (i + 1)) (xs (i + 2))))) (ns1 := (roN s T (cNear s (xs (i + 1)) (xs (i + 2))))) (Q' := fun r M' => ∃ T', CI M' s T' ∧ RI M' s ∧ isK M' 104 20 1 ∧ BU s T' n (kc - (roC T (cNear s (xs (i + 1)) (xs (i + 2))))) (ns - (roN s T (cNear s (xs (i + 1)) (xs (i + 2))))) ∧ r = some (vI (aNear (sNl s) (sLs s) (xs (i + 1)) (xs (i + 2))))) (tk K_L12 17 rfl) mk_L_99 mo_X10_near hC.1.1.o rfl rfl (Nat.zero_le _) (by omega) hk1 hk2 (kp10_near (by omega) hC (fun k hk => by rw [hk]; exact ⟨Nat.le_refl _, Nat.le_refl _⟩) (fun B T' hB1 hO hT hs => ⟨T', hB1, hR.ofr hO, hO.2.2.1 _ _ _ ho, hk3 T' hT hs, rfl⟩)) (fun r M1 hr => ?_)
  obtain ⟨T1, hC1, hR1, ho1, hB1, rfl⟩ := hr
  refine z_aload_n (tk K_L12 18 rfl) rfl rfl ?_
  refine z_a (k := 1) (tk K_L12 19 rfl) (tk K_L12 20 rfl) (tk K_L12 21 rfl) (tk K_L12 22 rfl) (tk K_L12 23 rfl) ic_1 hS rfl (by omega) ?_
  refine z_a (k := 2) (tk K_L12 24 rfl) (tk K_L12 25 rfl) (tk K_L12 26 rfl) (tk K_L12 27 rfl) (tk K_L12 28 rfl) ic_2 hS rfl (by omega) ?_
  refine z_callV (my := m_X11_near) (As := [vI (xs (i + 1)), vI (xs (i + 2))]) (S := [vI (aNear (sNl s) (sLs s) (xs (i + 1)) (xs (i + 2)))]) (a := 75) (kc1 := 0) (ns1 := 0) (Q' := fun r M' => CI M' s T1 ∧ RI M' s ∧ isK M' 104 20 1 ∧ r = some (vI (aNear (sNl s) (sLs s) (xs (i + 1)) (xs (i + 2))))) (tk K_L12 29 rfl) mk_L_102 mo_X11_near hR1.1.o rfl rfl (Nat.le_of_ble_eq_true rfl) (by omega) (Nat.zero_le _) (Nat.zero_le _) (rf_near (by omega) hR1.1 hR1.lds (fun B hF => ⟨hC1.rf (sc_rf hF), hR1.sc hF, hF.ext.1 _ _ _ ho1, rfl⟩)) (fun r M2 hr => ?_)
  obtain ⟨hC2, hR2, ho2, rfl⟩ := hr
  exact z_icmp_eq (t := 1544) (tk K_L12 30 rfl) rfl (fun _ => hN s T1 M2 _ _ hC2 hR2 ho2 hB1) (fun q => absurd rfl q)
theorem lw_c18 (hd : 100 ≤ d) (hS : SCR F X b Ls xs) (hi : i + 5 < Ls) (hC : CI M s T) (hR : RI M s) (ho : isK M 104 20 1) (hB : BU s T (n + 1) kc ns) (hN : NXT F X d b i n Q) : WV F (zB b) X d kc ns m_L_law 981 (LL i) [] M Q := by
  refine z_aload_n (tk K_L12 33 rfl) rfl rfl ?_
  refine z_a (k := 1) (tk K_L12 34 rfl) (tk K_L12 35 rfl) (tk K_L12 36 rfl) (tk K_L12 37 rfl) (tk K_L12 38 rfl) ic_1 hS rfl (by omega) ?_
  refine z_a (k := 2) (tk K_L12 39 rfl) (tk K_L12 40 rfl) (tk K_L12 41 rfl) (tk K_L12 42 rfl) (tk K_L12 43 rfl) ic_2 hS rfl (by omega) ?_
  refine z_a (k := 3) (tk K_L12 44 rfl) (tk K_L12 45 rfl) (tk K_L12 46 rfl) (tk K_L12 47 rfl) (tk K_L13 0 rfl) ic_3 hS rfl (by omega) ?_
  refine z_i2l (tk K_L13 1 rfl) ?_
  refine z_bipush (tk K_L13 2 rfl) (v := nI 32) (by decide) ?_
  refine z_lshl (tk K_L13 3 rfl) ?_
  refine z_a (k := 4) (tk K_L13 4 rfl) (tk K_L13 5 rfl) (tk K_L13 6 rfl) (tk K_L13 7 rfl) (tk K_L13 8 rfl) ic_4 hS rfl (by omega) ?_
  refine z_i2l (tk K_L13 9 rfl) ?_
  refine z_ldc2 (tk K_L13 10 rfl) kc_L_103 ?_
  refine z_land (tk K_L13 11 rfl) ?_
  refine z_lor (tk K_L13 12 rfl) ?_
  refine z_a (k := 5) (tk K_L13 13 rfl) (tk K_L13 14 rfl) (tk K_L13 15 rfl) (tk K_L13 16 rfl) (tk K_L13 17 rfl) ic_5 hS rfl (by omega) ?_
  refine z_callV (my := m_X10_walk) (As := [vI (xs (i + 1)), vI (xs (i + 2)), vJ (lshl (xs (i + 3)).toInt64 (nI 32) ||| (xs (i + 4)).toInt64 &&& 4294967295), vI (xs (i + 5))]) (S := []) (a := 1) (kc1 := 0) (ns1 := 0) (Q' := fun r M' => CI M' s T ∧ RI M' s ∧ isK M' 104 20 1 ∧ r = some (vI (aWalk (sNl s) (sLs s) (xs (i + 1)) (xs (i + 2)) (lshl (xs (i + 3)).toInt64 (nI 32) ||| (xs (i + 4)).toInt64 &&& 4294967295) (xs (i + 5))))) (tk K_L13 18 rfl) mk_L_105 mo_X10_walk hC.1.1.o rfl rfl (Nat.zero_le _) (by omega) (Nat.zero_le _) (Nat.zero_le _) (kp10_walk (by omega) hC (fun B hB1 hO => ⟨hB1, hR.ofr hO, hO.2.2.1 _ _ _ ho, rfl⟩)) (fun r M1 hr => ?_)
  obtain ⟨hC1, hR1, ho1, rfl⟩ := hr
  refine z_aload_n (tk K_L13 19 rfl) rfl rfl ?_
  refine z_a (k := 1) (tk K_L13 20 rfl) (tk K_L13 21 rfl) (tk K_L13 22 rfl) (tk K_L13 23 rfl) (tk K_L13 24 rfl) ic_1 hS rfl (by omega) ?_
  refine z_a (k := 2) (tk K_L13 25 rfl) (tk K_L13 26 rfl) (tk K_L13 27 rfl) (tk K_L13 28 rfl) (tk K_L13 29 rfl) ic_2 hS rfl (by omega) ?_
  refine z_a (k := 3) (tk K_L13 30 rfl) (tk K_L13 31 rfl) (tk K_L13 32 rfl) (tk K_L13 33 rfl) (tk K_L13 34 rfl) ic_3 hS rfl (by omega) ?_
  refine z_i2l (tk K_L13 35 rfl) ?_
  refine z_bipush (tk K_L13 36 rfl) (v := nI 32) (by decide) ?_
  refine z_lshl (tk K_L13 37 rfl) ?_
  refine z_a (k := 4) (tk K_L13 38 rfl) (tk K_L13 39 rfl) (tk K_L13 40 rfl) (tk K_L13 41 rfl) (tk K_L13 42 rfl) ic_4 hS rfl (by omega) ?_
  refine z_i2l (tk K_L13 43 rfl) ?_
  refine z_ldc2 (tk K_L13 44 rfl) kc_L_103 ?_
  refine z_land (tk K_L13 45 rfl) ?_
  refine z_lor (tk K_L13 46 rfl) ?_
  refine z_a (k := 5) (tk K_L13 47 rfl) (tk K_L14 0 rfl) (tk K_L14 1 rfl) (tk K_L14 2 rfl) (tk K_L14 3 rfl) ic_5 hS rfl (by omega) ?_
  refine z_callV (my := m_X11_walk) (As := [vI (xs (i + 1)), vI (xs (i + 2)), vJ (lshl (xs (i + 3)).toInt64 (nI 32) ||| (xs (i + 4)).toInt64 &&& 4294967295), vI (xs (i + 5))]) (S := [vI (aWalk (sNl s) (sLs s) (xs (i + 1)) (xs (i + 2)) (lshl (xs (i + 3)).toInt64 (nI 32) ||| (xs (i + 4)).toInt64 &&& 4294967295) (xs (i + 5)))]) (a := 75) (kc1 := 0) (ns1 := 0) (Q' := fun r M' => CI M' s T ∧ RI M' s ∧ isK M' 104 20 1 ∧ r = some (vI (aWalk (sNl s) (sLs s) (xs (i + 1)) (xs (i + 2)) (lshl (xs (i + 3)).toInt64 (nI 32) ||| (xs (i + 4)).toInt64 &&& 4294967295) (xs (i + 5))))) (tk K_L14 4 rfl) mk_L_109 mo_X11_walk hR1.1.o rfl rfl (Nat.le_of_ble_eq_true rfl) (by omega) (Nat.zero_le _) (Nat.zero_le _) (rf_walk (by omega) hR1.1 hR1.lds (fun B hF => ⟨hC1.rf (sc_rf hF), hR1.sc hF, hF.ext.1 _ _ _ ho1, rfl⟩)) (fun r M2 hr => ?_)
  obtain ⟨hC2, hR2, ho2, rfl⟩ := hr
  exact z_icmp_eq (t := 1544) (tk K_L14 5 rfl) rfl (fun _ => hN s T M2 _ _ hC2 hR2 ho2 (hB.same cntE.refl)) (fun q => absurd rfl q)
theorem lw_c19 (hd : 100 ≤ d) (hS : SCR F X b Ls xs) (hi : i + 5 < Ls) (hC : CI M s T) (hR : RI M s) (ho : isK M 104 20 1) (hB : BU s T (n + 1) kc ns) (hN : NXT F X d b i n Q) : WV F (zB b) X d kc ns m_L_law 1074 (LL i) [] M Q := by
  refine z_aload_n (tk K_L14 8 rfl) rfl rfl ?_
  refine z_a (k := 1) (tk K_L14 9 rfl) (tk K_L14 10 rfl) (tk K_L14 11 rfl) (tk K_L14 12 rfl) (tk K_L14 13 rfl) ic_1 hS rfl (by omega) ?_
  refine z_a (k := 2) (tk K_L14 14 rfl) (tk K_L14 15 rfl) (tk K_L14 16 rfl) (tk K_L14 17 rfl) (tk K_L14 18 rfl) ic_2 hS rfl (by omega) ?_
  obtain ⟨hk1, hk2, hk3⟩ := hB.game hC (l := (xs (i + 1))) (p := (xs (i + 2)))
  refine z_callV (my := m_X10_game) (As := [vI (xs (i + 1)), vI (xs (i + 2))]) (S := []) (a := 1) (kc1 := (gaC s (xs (i + 1)) (xs (i + 2)))) (ns1 := (gaN s (xs (i + 1)) (xs (i + 2)))) (Q' := fun r M' => ∃ T', CI M' (gameS s (xs (i + 1)) (xs (i + 2))) T' ∧ RI M' s ∧ isK M' 104 20 1 ∧ BU (gameS s (xs (i + 1)) (xs (i + 2))) T' n (kc - (gaC s (xs (i + 1)) (xs (i + 2)))) (ns - (gaN s (xs (i + 1)) (xs (i + 2)))) ∧ r = some (vI (aGame s (xs (i + 1)) (xs (i + 2))))) (tk K_L14 19 rfl) mk_L_110 mo_X10_game hC.1.1.o rfl rfl (Nat.zero_le _) (by omega) hk1 hk2 (kp10_game (by omega) hC (fun q1 q2 q3 => by have e := gaK_iff.mpr ⟨q1, q2, q3⟩; unfold gaC gaN; rw [if_pos e, if_pos e]; exact ⟨Nat.le_refl _, Nat.le_refl _⟩) (fun B T' hT hB1 hO => ⟨T', hB1, hR.ofr hO, hO.2.2.1 _ _ _ ho, hk3 T' hT, rfl⟩)) (fun r M1 hr => ?_)
  obtain ⟨T1, hC1, hR1, ho1, hB1, rfl⟩ := hr
  refine z_aload_n (tk K_L14 20 rfl) rfl rfl ?_
  refine z_a (k := 1) (tk K_L14 21 rfl) (tk K_L14 22 rfl) (tk K_L14 23 rfl) (tk K_L14 24 rfl) (tk K_L14 25 rfl) ic_1 hS rfl (by omega) ?_
  refine z_a (k := 2) (tk K_L14 26 rfl) (tk K_L14 27 rfl) (tk K_L14 28 rfl) (tk K_L14 29 rfl) (tk K_L14 30 rfl) ic_2 hS rfl (by omega) ?_
  refine z_callV (my := m_X11_game) (As := [vI (xs (i + 1)), vI (xs (i + 2))]) (S := [vI (aGame s (xs (i + 1)) (xs (i + 2)))]) (a := 75) (kc1 := 0) (ns1 := 0) (Q' := fun r M' => CI M' (gameS s (xs (i + 1)) (xs (i + 2))) T1 ∧ RI M' (gameS s (xs (i + 1)) (xs (i + 2))) ∧ isK M' 104 20 1 ∧ r = some (vI (aGame s (xs (i + 1)) (xs (i + 2))))) (tk K_L14 31 rfl) mk_L_113 mo_X11_game hR1.1.o rfl rfl (Nat.le_of_ble_eq_true rfl) (by omega) (Nat.zero_le _) (Nat.zero_le _) (rf_game (by omega) hR1 (fun B hF hR2 => ⟨hC1.rf hF, hR2, hF.ext.1 _ _ _ ho1, rfl⟩)) (fun r M2 hr => ?_)
  obtain ⟨hC2, hR2, ho2, rfl⟩ := hr
  exact z_icmp_eq (t := 1544) (tk K_L14 32 rfl) rfl (fun _ => hN (gameS s (xs (i + 1)) (xs (i + 2))) T1 M2 _ _ hC2 hR2 ho2 hB1) (fun q => absurd rfl q)
theorem lw_c20 (hd : 100 ≤ d) (hS : SCR F X b Ls xs) (hi : i + 5 < Ls) (hC : CI M s T) (hR : RI M s) (ho : isK M 104 20 1) (hB : BU s T (n + 1) kc ns) (hN : NXT F X d b i n Q) : WV F (zB b) X d kc ns m_L_law 1111 (LL i) [] M Q := by
  refine z_aload_n (tk K_L14 35 rfl) rfl rfl ?_
  refine z_a (k := 1) (tk K_L14 36 rfl) (tk K_L14 37 rfl) (tk K_L14 38 rfl) (tk K_L14 39 rfl) (tk K_L14 40 rfl) ic_1 hS rfl (by omega) ?_
  refine z_callV (my := m_X10_phase) (As := [vI (xs (i + 1))]) (S := []) (a := 1) (kc1 := 0) (ns1 := 0) (Q' := fun r M' => CI M' s T ∧ RI M' s ∧ isK M' 104 20 1 ∧ r = some (vI (aPhase s (xs (i + 1))))) (tk K_L14 41 rfl) mk_L_114 mo_X10_phase hC.1.1.o rfl rfl (Nat.zero_le _) (by omega) (Nat.zero_le _) (Nat.zero_le _) (kp10_phase (by omega) hC (fun B hB1 hO => ⟨hB1, hR.ofr hO, hO.2.2.1 _ _ _ ho, rfl⟩)) (fun r M1 hr => ?_)
  obtain ⟨hC1, hR1, ho1, rfl⟩ := hr
  refine z_aload_n (tk K_L14 42 rfl) rfl rfl ?_
  refine z_a (k := 1) (tk K_L14 43 rfl) (tk K_L14 44 rfl) (tk K_L14 45 rfl) (tk K_L14 46 rfl) (tk K_L14 47 rfl) ic_1 hS rfl (by omega) ?_
  refine z_callV (my := m_X11_phase) (As := [vI (xs (i + 1))]) (S := [vI (aPhase s (xs (i + 1)))]) (a := 75) (kc1 := 0) (ns1 := 0) (Q' := fun r M' => CI M' s T ∧ RI M' s ∧ isK M' 104 20 1 ∧ r = some (vI (aPhase s (xs (i + 1))))) (tk K_L15 0 rfl) mk_L_117 mo_X11_phase hR1.1.o rfl rfl (Nat.le_of_ble_eq_true rfl) (by omega) (Nat.zero_le _) (Nat.zero_le _) (rf_phase (by omega) hR1 (fun B hF hR2 => ⟨hC1.rf (sc_rf hF), hR2, hF.ext.1 _ _ _ ho1, rfl⟩)) (fun r M2 hr => ?_)
  obtain ⟨hC2, hR2, ho2, rfl⟩ := hr
  exact z_icmp_eq (t := 1544) (tk K_L15 1 rfl) rfl (fun _ => hN s T M2 _ _ hC2 hR2 ho2 (hB.same cntE.refl)) (fun q => absurd rfl q)
theorem lw_c21 (hd : 100 ≤ d) (hS : SCR F X b Ls xs) (hi : i + 5 < Ls) (hC : CI M s T) (hR : RI M s) (ho : isK M 104 20 1) (hB : BU s T (n + 1) kc ns) (hN : NXT F X d b i n Q) : WV F (zB b) X d kc ns m_L_law 1136 (LL i) [] M Q := by
  refine z_aload_n (tk K_L15 4 rfl) rfl rfl ?_
  refine z_a (k := 1) (tk K_L15 5 rfl) (tk K_L15 6 rfl) (tk K_L15 7 rfl) (tk K_L15 8 rfl) (tk K_L15 9 rfl) ic_1 hS rfl (by omega) ?_
  refine z_callV (my := m_X10_turn) (As := [vI (xs (i + 1))]) (S := []) (a := 1) (kc1 := 0) (ns1 := 0) (Q' := fun r M' => CI M' s T ∧ RI M' s ∧ isK M' 104 20 1 ∧ r = some (vI (aTurn s (xs (i + 1))))) (tk K_L15 10 rfl) mk_L_118 mo_X10_turn hC.1.1.o rfl rfl (Nat.zero_le _) (by omega) (Nat.zero_le _) (Nat.zero_le _) (kp10_turn (by omega) hC (fun B hB1 hO => ⟨hB1, hR.ofr hO, hO.2.2.1 _ _ _ ho, rfl⟩)) (fun r M1 hr => ?_)
  obtain ⟨hC1, hR1, ho1, rfl⟩ := hr
  refine z_aload_n (tk K_L15 11 rfl) rfl rfl ?_
  refine z_a (k := 1) (tk K_L15 12 rfl) (tk K_L15 13 rfl) (tk K_L15 14 rfl) (tk K_L15 15 rfl) (tk K_L15 16 rfl) ic_1 hS rfl (by omega) ?_
  refine z_callV (my := m_X11_turn) (As := [vI (xs (i + 1))]) (S := [vI (aTurn s (xs (i + 1)))]) (a := 75) (kc1 := 0) (ns1 := 0) (Q' := fun r M' => CI M' s T ∧ RI M' s ∧ isK M' 104 20 1 ∧ r = some (vI (aTurn s (xs (i + 1))))) (tk K_L15 17 rfl) mk_L_121 mo_X11_turn hR1.1.o rfl rfl (Nat.le_of_ble_eq_true rfl) (by omega) (Nat.zero_le _) (Nat.zero_le _) (rf_turn (by omega) hR1 (fun B hF hR2 => ⟨hC1.rf (sc_rf hF), hR2, hF.ext.1 _ _ _ ho1, rfl⟩)) (fun r M2 hr => ?_)
  obtain ⟨hC2, hR2, ho2, rfl⟩ := hr
  exact z_icmp_eq (t := 1544) (tk K_L15 18 rfl) rfl (fun _ => hN s T M2 _ _ hC2 hR2 ho2 (hB.same cntE.refl)) (fun q => absurd rfl q)
theorem lw_c22 (hd : 100 ≤ d) (hS : SCR F X b Ls xs) (hi : i + 5 < Ls) (hC : CI M s T) (hR : RI M s) (ho : isK M 104 20 1) (hB : BU s T (n + 1) kc ns) (hN : NXT F X d b i n Q) : WV F (zB b) X d kc ns m_L_law 1161 (LL i) [] M Q := by
  refine z_aload_n (tk K_L15 21 rfl) rfl rfl ?_
  refine z_a (k := 1) (tk K_L15 22 rfl) (tk K_L15 23 rfl) (tk K_L15 24 rfl) (tk K_L15 25 rfl) (tk K_L15 26 rfl) ic_1 hS rfl (by omega) ?_
  refine z_a (k := 2) (tk K_L15 27 rfl) (tk K_L15 28 rfl) (tk K_L15 29 rfl) (tk K_L15 30 rfl) (tk K_L15 31 rfl) ic_2 hS rfl (by omega) ?_
  refine z_callV (my := m_X10_move) (As := [vI (xs (i + 1)), vI (xs (i + 2))]) (S := []) (a := 1) (kc1 := 0) (ns1 := 0) (Q' := fun r M' => CI M' (moveS s (xs (i + 1)) (xs (i + 2))) T ∧ RI M' s ∧ isK M' 104 20 1 ∧ r = some (vI (aMove s (xs (i + 1)) (xs (i + 2))))) (tk K_L15 32 rfl) mk_L_122 mo_X10_move hC.1.1.o rfl rfl (Nat.zero_le _) (by omega) (Nat.zero_le _) (Nat.zero_le _) (kp10_move (by omega) hC (fun B hB1 hO => ⟨hB1, hR.ofr hO, hO.2.2.1 _ _ _ ho, rfl⟩)) (fun r M1 hr => ?_)
  obtain ⟨hC1, hR1, ho1, rfl⟩ := hr
  refine z_aload_n (tk K_L15 33 rfl) rfl rfl ?_
  refine z_a (k := 1) (tk K_L15 34 rfl) (tk K_L15 35 rfl) (tk K_L15 36 rfl) (tk K_L15 37 rfl) (tk K_L15 38 rfl) ic_1 hS rfl (by omega) ?_
  refine z_a (k := 2) (tk K_L15 39 rfl) (tk K_L15 40 rfl) (tk K_L15 41 rfl) (tk K_L15 42 rfl) (tk K_L15 43 rfl) ic_2 hS rfl (by omega) ?_
  refine z_callV (my := m_X11_move) (As := [vI (xs (i + 1)), vI (xs (i + 2))]) (S := [vI (aMove s (xs (i + 1)) (xs (i + 2)))]) (a := 75) (kc1 := 0) (ns1 := 0) (Q' := fun r M' => CI M' (moveS s (xs (i + 1)) (xs (i + 2))) T ∧ RI M' (moveS s (xs (i + 1)) (xs (i + 2))) ∧ isK M' 104 20 1 ∧ r = some (vI (aMove s (xs (i + 1)) (xs (i + 2))))) (tk K_L15 44 rfl) mk_L_126 mo_X11_move hR1.1.o rfl rfl (Nat.le_of_ble_eq_true rfl) (by omega) (Nat.zero_le _) (Nat.zero_le _) (rf_move (by omega) hR1 (fun B hF hR2 => ⟨hC1.rf hF, hR2, hF.ext.1 _ _ _ ho1, rfl⟩)) (fun r M2 hr => ?_)
  obtain ⟨hC2, hR2, ho2, rfl⟩ := hr
  exact z_icmp_eq (t := 1544) (tk K_L15 45 rfl) rfl (fun _ => hN (moveS s (xs (i + 1)) (xs (i + 2))) T M2 _ _ hC2 hR2 ho2 (hB.same cnt_move)) (fun q => absurd rfl q)
theorem lw_c23 (hd : 100 ≤ d) (hS : SCR F X b Ls xs) (hi : i + 5 < Ls) (hC : CI M s T) (hR : RI M s) (ho : isK M 104 20 1) (hB : BU s T (n + 1) kc ns) (hN : NXT F X d b i n Q) : WV F (zB b) X d kc ns m_L_law 1198 (LL i) [] M Q := by
  refine z_aload_n (tk K_L16 0 rfl) rfl rfl ?_
  refine z_a (k := 1) (tk K_L16 1 rfl) (tk K_L16 2 rfl) (tk K_L16 3 rfl) (tk K_L16 4 rfl) (tk K_L16 5 rfl) ic_1 hS rfl (by omega) ?_
  refine z_callV (my := m_X10_undo) (As := [vI (xs (i + 1))]) (S := []) (a := 1) (kc1 := 0) (ns1 := 0) (Q' := fun r M' => CI M' (undoS s (xs (i + 1))) T ∧ RI M' s ∧ isK M' 104 20 1 ∧ r = some (vI (aUndo s (xs (i + 1))))) (tk K_L16 6 rfl) mk_L_127 mo_X10_undo hC.1.1.o rfl rfl (Nat.zero_le _) (by omega) (Nat.zero_le _) (Nat.zero_le _) (kp10_undo (by omega) hC (fun B hB1 hO => ⟨hB1, hR.ofr hO, hO.2.2.1 _ _ _ ho, rfl⟩)) (fun r M1 hr => ?_)
  obtain ⟨hC1, hR1, ho1, rfl⟩ := hr
  refine z_aload_n (tk K_L16 7 rfl) rfl rfl ?_
  refine z_a (k := 1) (tk K_L16 8 rfl) (tk K_L16 9 rfl) (tk K_L16 10 rfl) (tk K_L16 11 rfl) (tk K_L16 12 rfl) ic_1 hS rfl (by omega) ?_
  refine z_callV (my := m_X11_undo) (As := [vI (xs (i + 1))]) (S := [vI (aUndo s (xs (i + 1)))]) (a := 75) (kc1 := 0) (ns1 := 0) (Q' := fun r M' => CI M' (undoS s (xs (i + 1))) T ∧ RI M' (undoS s (xs (i + 1))) ∧ isK M' 104 20 1 ∧ r = some (vI (aUndo s (xs (i + 1))))) (tk K_L16 13 rfl) mk_L_130 mo_X11_undo hR1.1.o rfl rfl (Nat.le_of_ble_eq_true rfl) (by omega) (Nat.zero_le _) (Nat.zero_le _) (rf_undo (by omega) hR1 (fun B hF hR2 => ⟨hC1.rf hF, hR2, hF.ext.1 _ _ _ ho1, rfl⟩)) (fun r M2 hr => ?_)
  obtain ⟨hC2, hR2, ho2, rfl⟩ := hr
  exact z_icmp_eq (t := 1544) (tk K_L16 14 rfl) rfl (fun _ => hN (undoS s (xs (i + 1))) T M2 _ _ hC2 hR2 ho2 (hB.same cnt_undo)) (fun q => absurd rfl q)
end LCASE
