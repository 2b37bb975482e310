/-! THE LAW: what it asks of a parish; its loop -/
theorem lcmp_same {x : Int64} : lcmpV x x = nI 0 := by
  unfold lcmpV lg_cmp
  simp
  rfl
theorem mJ_sJ {M : Mem} {a k : Nat} {v : Int64} : mJ (sJ M a k v) a k = v := by
  show up2 M.2.2.1 a k v a k = v
  simp [up2]
section LLOOP
variable {X : Cx} {d kc ns b Ls i n : Nat} {M : Mem} {s : StT} {T : AdT} {Q : Option AV → Mem → Prop} {xs : Nat → Int32}
variable {p : Program} {e : Env} {R : Room} {st : State} {m : MethodId} {args : Array Value} {below : List Frame} {meth : Method} {c : Code} {Qf : State → Prop}
set_option maxHeartbeats 4000000 in
theorem lw_c6 (hfl : X.1.stackTraces = false) (hd : 100 ≤ d) (hS : SCR (p, e, R, st, m, args, below, meth, c, Qf) X b Ls xs) (hi : i + 5 < Ls) (hC : CI M s T) (hR : RI M s) (ho : isK M 104 20 1) (hB : BU s T (n + 1) kc ns) (hN : NXT (p, e, R, st, m, args, below, meth, c, Qf) X d b i n Q) : WV (p, e, R, st, m, args, below, meth, c, Qf) (zB b) X d kc ns m_L_law 374 (LL i) [] M Q := by
  obtain ⟨hk1, hk2, hB1⟩ := hB.spent
  refine z_aload_n (tk K_L3 13 rfl) rfl rfl ?_
  refine z_a (k := 1) (tk K_L3 14 rfl) (tk K_L3 15 rfl) (tk K_L3 16 rfl) (tk K_L3 17 rfl) (tk K_L3 18 rfl) ic_1 hS rfl (by omega) ?_
  refine z_a (k := 2) (tk K_L3 19 rfl) (tk K_L3 20 rfl) (tk K_L3 21 rfl) (tk K_L3 22 rfl) (tk K_L3 23 rfl) ic_2 hS rfl (by omega) ?_
  refine z_a (k := 3) (tk K_L3 24 rfl) (tk K_L3 25 rfl) (tk K_L3 26 rfl) (tk K_L3 27 rfl) (tk K_L3 28 rfl) ic_3 hS rfl (by omega) ?_
  refine z_aload_n (tk K_L3 29 rfl) rfl rfl ?_
  have fin : ∀ (s5 s6 : Option AV) (M9 : Mem), CI M9 s T → RI M9 s → isK M9 104 20 1 → WV (p, e, R, st, m, args, below, meth, c, Qf) (zB b) X d (kc - 1) (ns - 6) m_L_law 451 [none, some (vR 1), some (vR 75), some (vR 104), some (vI (nI i)), s5, s6] [] M9 Q := fun s5 s6 M9 h1 h2 h3 => z_goto (t := 1544) (tk K_L4 19 rfl) rfl (z_msk [false, true, true, true, true, false, false] (z_forget (fun j v hj => by
    rcases j with _ | _ | _ | _ | _ | _ | _ | j <;> first | exact hj | (simp at hj)) (hN s T M9 _ _ h1 h2 h3 hB1)))
  refine z_callLP (S := []) (tk K_L3 30 rfl) hfl (by omega) hk1 hk2 (Nat.zero_le _) hC ho (fun v hv => ?_) (fun hn => ?_)
  · have hC1 := hC.sJ (a := 104) (k := 0) (v := (nI v).toInt64)
    have hR1 := hR.sJ (a := 104) (k := 0) (v := (nI v).toInt64)
    have ho1 : isK (sJ M 104 0 (nI v).toInt64) 104 20 1 := ho
    have hj1 : mJ (sJ M 104 0 (nI v).toInt64) 104 0 = (nI v).toInt64 := mJ_sJ
    generalize sJ M 104 0 (nI v).toInt64 = M1 at hC1 hR1 ho1 hj1 ⊢
    refine z_istore (tk K_L3 31 rfl) (by decide) rfl (by decide) rfl ?_
    refine z_aload_n (tk K_L3 32 rfl) rfl rfl ?_
    refine z_a (k := 1) (tk K_L3 33 rfl) (tk K_L3 34 rfl) (tk K_L3 35 rfl) (tk K_L3 36 rfl) (tk K_L3 37 rfl) ic_1 hS rfl (by omega) ?_
    refine z_a (k := 2) (tk K_L3 38 rfl) (tk K_L3 39 rfl) (tk K_L3 40 rfl) (tk K_L3 41 rfl) (tk K_L3 42 rfl) ic_2 hS rfl (by omega) ?_
    refine z_a (k := 3) (tk K_L3 43 rfl) (tk K_L3 44 rfl) (tk K_L3 45 rfl) (tk K_L3 46 rfl) (tk K_L3 47 rfl) ic_3 hS rfl (by omega) ?_
    refine z_callV (my := m_X11_parish) (As := [vI (xs (i + 1)), vI (xs (i + 2)), vI (xs (i + 3))]) (S := []) (a := 75) (kc1 := 0) (ns1 := 0) (Q' := fun r M' => CI M' s T ∧ RI M' s ∧ isK M' 104 20 1 ∧ mI M' 75 0 = nI 0 ∧ r = some (vI (nI v)) ∧ mJ M' 104 0 = (nI v).toInt64) (tk K_L4 0 rfl) mk_L_53 mo_X11_parish hR1.1.o rfl rfl (Nat.zero_le _) (by omega) (Nat.zero_le _) (Nat.zero_le _) (rf_parish (by omega) hR1 (fun B hF hR2 h0 => by rw [hv] at h0 ⊢; exact ⟨hC1.rf (sc_rf hF), hR2, hF.ext.1 _ _ _ ho1, h0, rfl, (by unfold mJ; rw [hF.2]; exact hj1)⟩)) (fun r M2 hr => ?_)
    obtain ⟨hC2, hR2, ho2, h60, rfl, hj2⟩ := hr
    refine z_istore (tk K_L4 1 rfl) (by decide) rfl (by decide) rfl ?_
    refine z_aload_n (tk K_L4 2 rfl) rfl rfl ?_
    refine z_callV (my := m_X11_thrown) (As := []) (S := []) (a := 75) (kc1 := 0) (ns1 := 0) (Q' := fun r M' => M' = M2 ∧ r = some (vI (nI 0))) (tk K_L4 3 rfl) mk_L_54 mo_X11_thrown hR2.1.o rfl rfl (Nat.zero_le _) (by omega) (Nat.zero_le _) (Nat.zero_le _) (rf_thrown hR2.1 h60 ⟨rfl, rfl⟩) (fun r M3 hr => ?_)
    obtain ⟨rfl, rfl⟩ := hr
    refine z_iload (i := 5) (tk K_L4 4 rfl) rfl (z_icmp_eq (t := 434) (tk K_L4 5 rfl) rfl (fun _ => ?_) (fun q => absurd rfl q))
    refine z_iload (i := 5) (tk K_L4 8 rfl) rfl ?_
    refine z_if_ne (t := 451) (tk K_L4 9 rfl) rfl (fun q => absurd rfl q) (fun _ => ?_)
    refine z_aload_n (tk K_L4 10 rfl) rfl rfl (z_iconst (tk K_L4 11 rfl) ic_0 (z_lald (tk K_L4 12 rfl) ho2 (na_in (by decide) (by decide)) ?_))
    rw [na_ix (by decide), hj2]
    refine z_iload (i := 6) (tk K_L4 13 rfl) rfl (z_i2l (tk K_L4 14 rfl) (z_lcmp (tk K_L4 15 rfl) ?_))
    rw [lcmp_same]
    exact z_if_eq (t := 451) (tk K_L4 16 rfl) rfl (fun _ => fin _ _ M3 hC2 hR2 ho2) (fun q => absurd rfl q)
  · obtain ⟨hC1, hO1⟩ := hC.made (k0 := 21) (n0 := 0)
    have hR1 := hR.ofr hO1
    have ho1 := hO1.2.2.1 _ _ _ ho
    generalize nw M 21 0 = M1 at hC1 hR1 ho1 ⊢
    refine z_istore (tk K_L3 31 rfl) (by decide) rfl (by decide) rfl ?_
    refine z_aload_n (tk K_L3 32 rfl) rfl rfl ?_
    refine z_a (k := 1) (tk K_L3 33 rfl) (tk K_L3 34 rfl) (tk K_L3 35 rfl) (tk K_L3 36 rfl) (tk K_L3 37 rfl) ic_1 hS rfl (by omega) ?_
    refine z_a (k := 2) (tk K_L3 38 rfl) (tk K_L3 39 rfl) (tk K_L3 40 rfl) (tk K_L3 41 rfl) (tk K_L3 42 rfl) ic_2 hS rfl (by omega) ?_
    refine z_a (k := 3) (tk K_L3 43 rfl) (tk K_L3 44 rfl) (tk K_L3 45 rfl) (tk K_L3 46 rfl) (tk K_L3 47 rfl) ic_3 hS rfl (by omega) ?_
    refine z_callV (my := m_X11_parish) (As := [vI (xs (i + 1)), vI (xs (i + 2)), vI (xs (i + 3))]) (S := []) (a := 75) (kc1 := 0) (ns1 := 0) (Q' := fun r M' => CI M' s T ∧ RI M' s ∧ isK M' 104 20 1 ∧ mI M' 75 0 = nI 1 ∧ r = some (vI (nI 0))) (tk K_L4 0 rfl) mk_L_53 mo_X11_parish hR1.1.o rfl rfl (Nat.zero_le _) (by omega) (Nat.zero_le _) (Nat.zero_le _) (rf_parish (by omega) hR1 (fun B hF hR2 h0 => by rw [hn] at h0 ⊢; exact ⟨hC1.rf (sc_rf hF), hR2, hF.ext.1 _ _ _ ho1, h0, rfl⟩)) (fun r M2 hr => ?_)
    obtain ⟨hC2, hR2, ho2, h60, rfl⟩ := hr
    refine z_istore (tk K_L4 1 rfl) (by decide) rfl (by decide) rfl ?_
    refine z_aload_n (tk K_L4 2 rfl) rfl rfl ?_
    refine z_callV (my := m_X11_thrown) (As := []) (S := []) (a := 75) (kc1 := 0) (ns1 := 0) (Q' := fun r M' => M' = M2 ∧ r = some (vI (nI 1))) (tk K_L4 3 rfl) mk_L_54 mo_X11_thrown hR2.1.o rfl rfl (Nat.zero_le _) (by omega) (Nat.zero_le _) (Nat.zero_le _) (rf_thrown hR2.1 h60 ⟨rfl, rfl⟩) (fun r M3 hr => ?_)
    obtain ⟨rfl, rfl⟩ := hr
    refine z_iload (i := 5) (tk K_L4 4 rfl) rfl (z_icmp_eq (t := 434) (tk K_L4 5 rfl) rfl (fun _ => ?_) (fun q => absurd rfl q))
    refine z_iload (i := 5) (tk K_L4 8 rfl) rfl ?_
    exact z_if_ne (t := 451) (tk K_L4 9 rfl) rfl (fun _ => fin _ _ M3 hC2 hR2 ho2) (fun q => absurd q (by decide))
set_option maxHeartbeats 4000000 in
theorem law_loop {st : State} (hfl : X.1.stackTraces = false) (hd : 100 ≤ d) (hb0 : st.heap.size ≤ X.2.2.2 + 1) (hS : SCR (p, e, room_1, st, m, #[Value.ref b], below, meth, c, lw_Z below #[Value.ref b] st) X b Ls xs) : ∀ (n i : Nat) (s : StT) (T : AdT) (M : Mem) (kc ns : Nat), Ls < i + 6 * (n + 1) → i ≤ 4000 → CI M s T → RI M s → isK M 104 20 1 → BU s T n kc ns →
    WV (p, e, room_1, st, m, #[Value.ref b], below, meth, c, lw_Z below #[Value.ref b] st) (zB b) X d kc ns m_L_law 23 (LL i) [] M Q := by
  have hL := hS.2.2.2
  have key : ∀ i : Nat, i ≤ 4000 → ¬ (nI Ls - nI 6 < nI i) → i + 5 < Ls := fun i hi q => by
    by_cases h6 : 6 ≤ Ls
    · rw [na_sub h6, Int32.lt_iff_toInt_lt, nI_toInt (by omega), nI_toInt (by omega)] at q
      omega
    · exfalso
      refine q ?_
      have e1 : (nI Ls - nI 6).toInt < 0 := by
        rcases (show Ls = 0 ∨ Ls = 1 ∨ Ls = 2 ∨ Ls = 3 ∨ Ls = 4 ∨ Ls = 5 by omega) with h | h | h | h | h | h <;> rw [h] <;> decide
      rw [Int32.lt_iff_toInt_lt, nI_toInt (show i < 2 ^ 31 by omega)]
      omega
  intro n
  induction n with
  | zero =>
    intro i s T M kc ns h1 h2 hC hR ho hB
    refine z_iload (tk K_L0 13 rfl) rfl (z_len (tk K_L0 14 rfl) (tk K_L0 15 rfl) hS.1 hS.2.1 hS.2.2.1 (z_bipush (tk K_L0 16 rfl) bp_6 (z_isub (tk K_L0 17 rfl) (z_icmp_gt (t := 1550) (tk K_L0 18 rfl) rfl (fun _ => ?_) (fun q => ?_)))))
    · exact z_iconst (tk K_L21 12 rfl) ic_1 (z_lawret (tk K_L21 13 rfl) hb0)
    · exact absurd (key i h2 q) (by omega)
  | succ n ih =>
    intro i s T M kc ns h1 h2 hC hR ho hB
    refine z_iload (tk K_L0 13 rfl) rfl (z_len (tk K_L0 14 rfl) (tk K_L0 15 rfl) hS.1 hS.2.1 hS.2.2.1 (z_bipush (tk K_L0 16 rfl) bp_6 (z_isub (tk K_L0 17 rfl) (z_icmp_gt (t := 1550) (tk K_L0 18 rfl) rfl (fun _ => ?_) (fun q => ?_)))))
    · exact z_iconst (tk K_L21 12 rfl) ic_1 (z_lawret (tk K_L21 13 rfl) hb0)
    have hlt := key i h2 q
    have hN : NXT (p, e, room_1, st, m, #[Value.ref b], below, meth, c, lw_Z below #[Value.ref b] st) X d b i n Q := fun s' T' M' kc' ns' c1 c2 c3 c4 => z_iinc (x := nI i) (v := nI (i + 6)) (tk K_L21 10 rfl) (by decide) rfl (by rw [← nI_add]; rfl) rfl (by decide) rfl (z_goto (t := 23) (tk K_L21 11 rfl) rfl (ih (i + 6) s' T' M' kc' ns' (by omega) (by omega) c1 c2 c3 c4))
    refine z_at0 (tk K_L0 19 rfl) (tk K_L0 20 rfl) (tk K_L0 21 rfl) hS.1 hS.2.1 hS.2.2.1 rfl (by omega) hL (z_bipush (v := nI 63) (tk K_L0 22 rfl) (by decide) (z_iand (tk K_L0 23 rfl) ?_))
    refine z_table (td := 1544) (tk K_L0 24 rfl) rfl (fun _ => hN s T M kc ns hC hR ho ⟨by have := hB.1; omega, by have := hB.2; omega⟩) (fun k hk hk2 => ?_)
    have hk3 : k ≤ 32 := by omega
    match k, hk3 with
      | 0, _ => exact ⟨148, 188, rfl, rfl, lw_c0 hd hS hlt hC hR ho hB hN⟩
      | 1, _ => exact ⟨221, 261, rfl, rfl, lw_c1 hd hS hlt hC hR ho hB hN⟩
      | 2, _ => exact ⟨246, 286, rfl, rfl, lw_c2 hd hS hlt hC hR ho hB hN⟩
      | 3, _ => exact ⟨271, 311, rfl, rfl, lw_c3 hd hS hlt hC hR ho hB hN⟩
      | 4, _ => exact ⟨284, 324, rfl, rfl, lw_c4 hd hS hlt hC hR ho hB hN⟩
      | 5, _ => exact ⟨297, 337, rfl, rfl, lw_c5 hd hS hlt hC hR ho hB hN⟩
      | 6, _ => exact ⟨334, 374, rfl, rfl, lw_c6 hfl hd hS hlt hC hR ho hB hN⟩
      | 7, _ => exact ⟨414, 454, rfl, rfl, lw_c7 hd hS hlt hC hR ho hB hN⟩
      | 8, _ => exact ⟨475, 515, rfl, rfl, lw_c8 hd hS hlt hC hR ho hB hN⟩
      | 9, _ => exact ⟨512, 552, rfl, rfl, lw_c9 hd hS hlt hC hR ho hB hN⟩
      | 10, _ => exact ⟨561, 601, rfl, rfl, lw_c10 hd hS hlt hC hR ho hB hN⟩
      | 11, _ => exact ⟨610, 650, rfl, rfl, lw_c11 hd hS hlt hC hR ho hB hN⟩
      | 12, _ => exact ⟨647, 687, rfl, rfl, lw_c12 hd hS hlt hC hR ho hB hN⟩
      | 13, _ => exact ⟨696, 736, rfl, rfl, lw_c13 hd hS hlt hC hR ho hB hN⟩
      | 14, _ => exact ⟨757, 797, rfl, rfl, lw_c14 hd hS hlt hC hR ho hB hN⟩
      | 15, _ => exact ⟨818, 858, rfl, rfl, lw_c15 hd hS hlt hC hR ho hB hN⟩
      | 16, _ => exact ⟨867, 907, rfl, rfl, lw_c16 hd hS hlt hC hR ho hB hN⟩
      | 17, _ => exact ⟨904, 944, rfl, rfl, lw_c17 hd hS hlt hC hR ho hB hN⟩
      | 18, _ => exact ⟨941, 981, rfl, rfl, lw_c18 hd hS hlt hC hR ho hB hN⟩
      | 19, _ => exact ⟨1034, 1074, rfl, rfl, lw_c19 hd hS hlt hC hR ho hB hN⟩
      | 20, _ => exact ⟨1071, 1111, rfl, rfl, lw_c20 hd hS hlt hC hR ho hB hN⟩
      | 21, _ => exact ⟨1096, 1136, rfl, rfl, lw_c21 hd hS hlt hC hR ho hB hN⟩
      | 22, _ => exact ⟨1121, 1161, rfl, rfl, lw_c22 hd hS hlt hC hR ho hB hN⟩
      | 23, _ => exact ⟨1158, 1198, rfl, rfl, lw_c23 hd hS hlt hC hR ho hB hN⟩
      | 24, _ => exact ⟨1183, 1223, rfl, rfl, lw_c24 hd hS hlt hC hR ho hB hN⟩
      | 25, _ => exact ⟨1220, 1260, rfl, rfl, lw_c25 hd hS hlt hC hR ho hB hN⟩
      | 26, _ => exact ⟨1257, 1297, rfl, rfl, lw_c26 hd hS hlt hC hR ho hB hN⟩
      | 27, _ => exact ⟨1294, 1334, rfl, rfl, lw_c27 hd hS hlt hC hR ho hB hN⟩
      | 28, _ => exact ⟨1343, 1383, rfl, rfl, lw_c28 hd hS hlt hC hR ho hB hN⟩
      | 29, _ => exact ⟨1380, 1420, rfl, rfl, lw_c29 hd hS hlt hC hR ho hB hN⟩
      | 30, _ => exact ⟨1417, 1457, rfl, rfl, lw_c30 hd hS hlt hC hR ho hB hN⟩
      | 31, _ => exact ⟨1442, 1482, rfl, rfl, lw_c31 hd hS hlt hC hR ho hB hN⟩
      | 32, _ => exact ⟨1479, 1519, rfl, rfl, lw_c32 hd hS hlt hC hR ho hB hN⟩
      | k + 33, hk4 => omega
end LLOOP
