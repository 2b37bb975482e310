-- TwoPencilsModel.pairValue(III)I
theorem b_X11_pairValue_0 {X : Cx} {d kc ns : Nat} {M : Mem} {Q : Option AV → Mem → Prop} {l1 : Int32} {l2 : Int32} {l3 : Int32} (hS : RfS M) (hd : 1 ≤ d)
    (h : Cl X (d - 1) 0 0 m_J6_numberOfTrailingZeros_0f7a4 [vI (l1 ^^^ (-1))] M (fun r M1 => ∃ x1 : Int32, r = some (vI x1) ∧ Ext M M1 ∧ ((x1 < l2 → ∀ x2 : Int32, x2 = (x1 + (nI 1)) → WA X d kc ns m_X11_pairValue 27 [some (vR 75), some (vI l1), some (vI l2), some (vI l3), some (vI x1), some (vI (nI 1000)), some (vI x2), none, none] [] M1 Q) ∧ (¬ x1 < l2 → Q (some (vI (nI 0))) M1)))) :
    WA X d kc ns m_X11_pairValue 0 [some (vR 75), some (vI l1), some (vI l2), some (vI l3), none, none, none, none, none] [] M Q := by
  refine x_iload_n (tk K_X11_pairValue 0 rfl) rfl rfl ?_
  refine x_iconst (tk K_X11_pairValue 1 rfl) ic_m1 ?_
  refine x_ixor (tk K_X11_pairValue 2 rfl) ?_
  refine x_callS0 (As := [vI _]) (S := []) (tk K_X11_pairValue 3 rfl) mk_X11_343 mo_J6_numberOfTrailingZeros_0f7a4 rfl rfl (Nat.le_of_ble_eq_true rfl) hd h (fun r M1 hq => ?_)
  obtain ⟨x1, rfl, hE, h⟩ := hq
  have hT0 := RfS.ext hS hE
  refine x_istore (L' := [some (vR _), some (vI _), some (vI _), some (vI _), some (vI _), none, none, none, none]) (tk K_X11_pairValue 4 rfl) rfl (Nat.le_of_ble_eq_true rfl) rfl ?_
  refine x_iload (tk K_X11_pairValue 5 rfl) rfl ?_
  refine x_iload_n (tk K_X11_pairValue 6 rfl) rfl rfl ?_
  refine x_icmp_lt (t := 16) (tk K_X11_pairValue 7 rfl) rfl (fun hc => ?_) (fun hc => ?_)
  · have h := h.1 hc
    refine x_sipush (tk K_X11_pairValue 10 rfl) sp_1000 ?_
    refine x_istore (L' := [some (vR _), some (vI _), some (vI _), some (vI _), some (vI _), some (vI _), none, none, none]) (tk K_X11_pairValue 11 rfl) rfl (Nat.le_of_ble_eq_true rfl) rfl ?_
    refine x_iload (tk K_X11_pairValue 12 rfl) rfl ?_
    refine x_iconst (tk K_X11_pairValue 13 rfl) ic_1 ?_
    refine x_iadd (tk K_X11_pairValue 14 rfl) ?_
    have h := h _ rfl
    refine x_istore (L' := [some (vR _), some (vI _), some (vI _), some (vI _), some (vI _), some (vI _), some (vI _), none, none]) (tk K_X11_pairValue 15 rfl) rfl (Nat.le_of_ble_eq_true rfl) rfl ?_
    exact h
  · have h := h.2 hc
    refine x_iconst (tk K_X11_pairValue 8 rfl) ic_0 ?_
    exact x_ireturn (tk K_X11_pairValue 9 rfl) rfl rfl h

theorem b_X11_pairValue_27 {X : Cx} {d kc ns : Nat} {M : Mem} {Q : Option AV → Mem → Prop} {l1 : Int32} {l2 : Int32} {l3 : Int32} {l4 : Int32} {l5 : Int32} {l6 : Int32} (hS : RfS M) (hd : 1 ≤ d)
    (h : ((l2 ≤ l6 → Q (some (vI l5)) M) ∧ (¬ l2 ≤ l6 → vp_in l4 8 ∧ vp_in l6 8 ∧ ∀ x1 : Int32, x1 = ((mI M 93 (ix l4)) ||| (mI M 93 (ix l6))) → ((((shr l1 l6) &&& (nI 1)) = (nI 1) → WA X d kc ns m_X11_pairValue 27 [some (vR 75), some (vI l1), some (vI l2), some (vI l3), some (vI l4), some (vI l5), some (vI (l6 + (nI 1))), none, none] [] M Q) ∧ (¬ ((shr l1 l6) &&& (nI 1)) = (nI 1) → vp_in x1 512 ∧ (((mI M 87 (ix x1)) = nI 0 → Cl X (d - 1) 0 0 m_X11_pairValue [vR 75, vI ((l1 ||| (shl (nI 1) l4)) ||| (shl (nI 1) l6)), vI l2, vI l3] M (fun r M1 => ∃ x2 : Int32, r = some (vI x2) ∧ Ext M M1 ∧ ((x2 = (nI 1000) → WA X d kc ns m_X11_pairValue 27 [some (vR 75), some (vI l1), some (vI l2), some (vI l3), some (vI l4), some (vI l5), some (vI (l6 + (nI 1))), none, none] [] M1 Q) ∧ (¬ x2 = (nI 1000) → Cl X (d - 1) 0 0 m_X11_worth [vR 75, vI x1] M1 (fun r M2 => ∃ x3 : Int32, r = some (vI x3) ∧ Ext M1 M2 ∧ Cl X (d - 1) 0 0 m_X11_better [vI l5, vI (x2 + x3), vI l3] M2 (fun r M3 => ∃ x4 : Int32, r = some (vI x4) ∧ Ext M2 M3 ∧ WA X d kc ns m_X11_pairValue 27 [some (vR 75), some (vI l1), some (vI l2), some (vI l3), some (vI l4), some (vI x4), some (vI (l6 + (nI 1))), none, none] [] M3 Q)))))) ∧ (¬ (mI M 87 (ix x1)) = nI 0 → WA X d kc ns m_X11_pairValue 27 [some (vR 75), some (vI l1), some (vI l2), some (vI l3), some (vI l4), some (vI l5), some (vI (l6 + (nI 1))), none, none] [] M Q))))))) :
    WA X d kc ns m_X11_pairValue 27 [some (vR 75), some (vI l1), some (vI l2), some (vI l3), some (vI l4), some (vI l5), some (vI l6), none, none] [] M Q := by
  refine x_iload (tk K_X11_pairValue 16 rfl) rfl ?_
  refine x_iload_n (tk K_X11_pairValue 17 rfl) rfl rfl ?_
  refine x_icmp_ge (t := 123) (tk K_X11_pairValue 18 rfl) rfl (fun hc => ?_) (fun hc => ?_)
  · have h := h.1 hc
    refine x_iload (tk K_X11_pairValue 70 rfl) rfl ?_
    exact x_ireturn (tk K_X11_pairValue 71 rfl) rfl rfl h
  · have h := h.2 hc
    refine x_aload_n (tk K_X11_pairValue 19 rfl) rfl rfl ?_
    refine x_getRc (tk K_X11_pairValue 20 rfl) f_X11_62 rfl (RfS.o hS) (RfS.r34 hS) ?_
    refine x_iload (tk K_X11_pairValue 21 rfl) rfl ?_
    have hi := h.1
    have h := h.2
    refine x_iald (tk K_X11_pairValue 22 rfl) (RfS.k34 hS) hi ?_
    refine x_aload_n (tk K_X11_pairValue 23 rfl) rfl rfl ?_
    refine x_getRc (tk K_X11_pairValue 24 rfl) f_X11_62 rfl (RfS.o hS) (RfS.r34 hS) ?_
    refine x_iload (tk K_X11_pairValue 25 rfl) rfl ?_
    have hi := h.1
    have h := h.2
    refine x_iald (tk K_X11_pairValue 26 rfl) (RfS.k34 hS) hi ?_
    refine x_ior (tk K_X11_pairValue 27 rfl) ?_
    have h := h _ rfl
    refine x_istore (L' := [some (vR _), some (vI _), some (vI _), some (vI _), some (vI _), some (vI _), some (vI _), some (vI _), none]) (tk K_X11_pairValue 28 rfl) rfl (Nat.le_of_ble_eq_true rfl) rfl ?_
    refine x_iload_n (tk K_X11_pairValue 29 rfl) rfl rfl ?_
    refine x_iload (tk K_X11_pairValue 30 rfl) rfl ?_
    refine x_ishr (tk K_X11_pairValue 31 rfl) ?_
    refine x_iconst (tk K_X11_pairValue 32 rfl) ic_1 ?_
    refine x_iand (tk K_X11_pairValue 33 rfl) ?_
    refine x_iconst (tk K_X11_pairValue 34 rfl) ic_1 ?_
    refine x_icmp_eq (t := 117) (tk K_X11_pairValue 35 rfl) rfl (fun hc => ?_) (fun hc => ?_)
    · have h := h.1 hc
      refine x_iincW (L' := [some (vR _), some (vI _), some (vI _), some (vI _), some (vI _), some (vI _), some (vI _), some (vI _), none]) (tk K_X11_pairValue 68 rfl) rfl ic_1 rfl (Nat.le_of_ble_eq_true rfl) rfl ?_
      refine x_goto (t := 27) (tk K_X11_pairValue 69 rfl) rfl ?_
      refine x_msk [true, true, true, true, true, true, true, false, false] ?_
      exact h
    · have h := h.2 hc
      refine x_aload_n (tk K_X11_pairValue 36 rfl) rfl rfl ?_
      refine x_getRc (tk K_X11_pairValue 37 rfl) f_X11_43 rfl (RfS.o hS) (RfS.r17 hS) ?_
      refine x_iload (tk K_X11_pairValue 38 rfl) rfl ?_
      have hi := h.1
      have h := h.2
      refine x_iald (tk K_X11_pairValue 39 rfl) (RfS.k17 hS) hi ?_
      refine x_if_eq (t := 73) (tk K_X11_pairValue 40 rfl) rfl (fun hc => ?_) (fun hc => ?_)
      · have h := h.1 hc
        refine x_aload_n (tk K_X11_pairValue 42 rfl) rfl rfl ?_
        refine x_iload_n (tk K_X11_pairValue 43 rfl) rfl rfl ?_
        refine x_iconst (tk K_X11_pairValue 44 rfl) ic_1 ?_
        refine x_iload (tk K_X11_pairValue 45 rfl) rfl ?_
        refine x_ishl (tk K_X11_pairValue 46 rfl) ?_
        refine x_ior (tk K_X11_pairValue 47 rfl) ?_
        refine x_iconst (tk K_X11_pairValue 48 rfl) ic_1 ?_
        refine x_iload (tk K_X11_pairValue 49 rfl) rfl ?_
        refine x_ishl (tk K_X11_pairValue 50 rfl) ?_
        refine x_ior (tk K_X11_pairValue 51 rfl) ?_
        refine x_iload_n (tk K_X11_pairValue 52 rfl) rfl rfl ?_
        refine x_iload_n (tk K_X11_pairValue 53 rfl) rfl rfl ?_
        refine x_callV0 (As := [vI _, vI _, vI _]) (S := []) (tk K_X11_pairValue 54 rfl) mk_X11_363 mo_X11_pairValue (RfS.o hS) rfl rfl (Nat.le_of_ble_eq_true rfl) hd h (fun r M1 hq => ?_)
        obtain ⟨x2, rfl, hE, h⟩ := hq
        have hT0 := RfS.ext hS hE
        have hT1 := hE.1 _ _ _ (RfS.k34 hS)
        have hT2 := hE.1 _ _ _ (RfS.k17 hS)
        refine x_istore (L' := [some (vR _), some (vI _), some (vI _), some (vI _), some (vI _), some (vI _), some (vI _), some (vI _), some (vI _)]) (tk K_X11_pairValue 55 rfl) rfl (Nat.le_of_ble_eq_true rfl) rfl ?_
        refine x_iload (tk K_X11_pairValue 56 rfl) rfl ?_
        refine x_sipush (tk K_X11_pairValue 57 rfl) sp_1000 ?_
        refine x_icmp_eq (t := 117) (tk K_X11_pairValue 58 rfl) rfl (fun hc => ?_) (fun hc => ?_)
        · have h := h.1 hc
          refine x_iincW (L' := [some (vR _), some (vI _), some (vI _), some (vI _), some (vI _), some (vI _), some (vI _), some (vI _), some (vI _)]) (tk K_X11_pairValue 68 rfl) rfl ic_1 rfl (Nat.le_of_ble_eq_true rfl) rfl ?_
          refine x_goto (t := 27) (tk K_X11_pairValue 69 rfl) rfl ?_
          refine x_msk [true, true, true, true, true, true, true, false, false] ?_
          exact h
        · have h := h.2 hc
          refine x_iload (tk K_X11_pairValue 59 rfl) rfl ?_
          refine x_iload (tk K_X11_pairValue 60 rfl) rfl ?_
          refine x_aload_n (tk K_X11_pairValue 61 rfl) rfl rfl ?_
          refine x_iload (tk K_X11_pairValue 62 rfl) rfl ?_
          refine x_callV0 (As := [vI _]) (S := [vI _, vI _]) (tk K_X11_pairValue 63 rfl) mk_X11_372 mo_X11_worth (RfS.o hT0) rfl rfl (Nat.le_of_ble_eq_true rfl) hd h (fun r M2 hq => ?_)
          obtain ⟨x3, rfl, hE, h⟩ := hq
          have hT3 := RfS.ext hT0 hE
          have hT4 := hE.1 _ _ _ hT1
          have hT5 := hE.1 _ _ _ hT2
          refine x_iadd (tk K_X11_pairValue 64 rfl) ?_
          refine x_iload_n (tk K_X11_pairValue 65 rfl) rfl rfl ?_
          refine x_callS0 (As := [vI _, vI _, vI _]) (S := []) (tk K_X11_pairValue 66 rfl) mk_X11_375 mo_X11_better rfl rfl (Nat.le_of_ble_eq_true rfl) hd h (fun r M3 hq => ?_)
          obtain ⟨x4, rfl, hE, h⟩ := hq
          have hT6 := RfS.ext hT3 hE
          have hT7 := hE.1 _ _ _ hT4
          have hT8 := hE.1 _ _ _ hT5
          refine x_istore (L' := [some (vR _), some (vI _), some (vI _), some (vI _), some (vI _), some (vI _), some (vI _), some (vI _), some (vI _)]) (tk K_X11_pairValue 67 rfl) rfl (Nat.le_of_ble_eq_true rfl) rfl ?_
          refine x_iincW (L' := [some (vR _), some (vI _), some (vI _), some (vI _), some (vI _), some (vI _), some (vI _), some (vI _), some (vI _)]) (tk K_X11_pairValue 68 rfl) rfl ic_1 rfl (Nat.le_of_ble_eq_true rfl) rfl ?_
          refine x_goto (t := 27) (tk K_X11_pairValue 69 rfl) rfl ?_
          refine x_msk [true, true, true, true, true, true, true, false, false] ?_
          exact h
      · have h := h.2 hc
        refine x_goto (t := 117) (tk K_X11_pairValue 41 rfl) rfl ?_
        refine x_iincW (L' := [some (vR _), some (vI _), some (vI _), some (vI _), some (vI _), some (vI _), some (vI _), some (vI _), none]) (tk K_X11_pairValue 68 rfl) rfl ic_1 rfl (Nat.le_of_ble_eq_true rfl) rfl ?_
        refine x_goto (t := 27) (tk K_X11_pairValue 69 rfl) rfl ?_
        refine x_msk [true, true, true, true, true, true, true, false, false] ?_
        exact h

theorem e_X11_pairValue {X : Cx} {d kc ns : Nat} {M : Mem} {Q : Option AV → Mem → Prop} {a1 : Int32} {a2 : Int32} {a3 : Int32} (h : WA X d kc ns m_X11_pairValue 0 [some (vR 75), some (vI a1), some (vI a2), some (vI a3), none, none, none, none, none] [] M Q) : Cl X d kc ns m_X11_pairValue [vR 75, vI a1, vI a2, vI a3] M Q := Cl.intro (k := 5) (by decide) rfl rfl h

-- TwoPencilsModel.better(III)I
theorem b_X11_better_0 {X : Cx} {d kc ns : Nat} {M : Mem} {Q : Option AV → Mem → Prop} {l0 : Int32} {l1 : Int32} {l2 : Int32}
    (h : ((l0 = (nI 1000) → Q (some (vI l1)) M) ∧ (¬ l0 = (nI 1000) → ((¬ l2 = (nI 1) → ((l0 ≤ l1 → Q (some (vI l0)) M) ∧ (¬ l0 ≤ l1 → Q (some (vI l1)) M))) ∧ (l2 = (nI 1) → ((l1 ≤ l0 → Q (some (vI l0)) M) ∧ (¬ l1 ≤ l0 → Q (some (vI l1)) M))))))) :
    WA X d kc ns m_X11_better 0 [some (vI l0), some (vI l1), some (vI l2)] [] M Q := by
  refine x_iload_n (tk K_X11_better 0 rfl) rfl rfl ?_
  refine x_sipush (tk K_X11_better 1 rfl) sp_1000 ?_
  refine x_icmp_eq (t := 25) (tk K_X11_better 2 rfl) rfl (fun hc => ?_) (fun hc => ?_)
  · have h := h.1 hc
    refine x_iload_n (tk K_X11_better 13 rfl) rfl rfl ?_
    refine x_goto (t := 30) (tk K_X11_better 14 rfl) rfl ?_
    exact x_ireturn (tk K_X11_better 16 rfl) rfl rfl h
  · have h := h.2 hc
    refine x_iload_n (tk K_X11_better 3 rfl) rfl rfl ?_
    refine x_iconst (tk K_X11_better 4 rfl) ic_1 ?_
    refine x_icmp_ne (t := 20) (tk K_X11_better 5 rfl) rfl (fun hc => ?_) (fun hc => ?_)
    · have h := h.1 hc
      refine x_iload_n (tk K_X11_better 10 rfl) rfl rfl ?_
      refine x_iload_n (tk K_X11_better 11 rfl) rfl rfl ?_
      refine x_icmp_ge (t := 29) (tk K_X11_better 12 rfl) rfl (fun hc => ?_) (fun hc => ?_)
      · have h := h.1 hc
        refine x_iload_n (tk K_X11_better 15 rfl) rfl rfl ?_
        exact x_ireturn (tk K_X11_better 16 rfl) rfl rfl h
      · have h := h.2 hc
        refine x_iload_n (tk K_X11_better 13 rfl) rfl rfl ?_
        refine x_goto (t := 30) (tk K_X11_better 14 rfl) rfl ?_
        exact x_ireturn (tk K_X11_better 16 rfl) rfl rfl h
    · have h := h.2 hc
      refine x_iload_n (tk K_X11_better 6 rfl) rfl rfl ?_
      refine x_iload_n (tk K_X11_better 7 rfl) rfl rfl ?_
      refine x_icmp_le (t := 29) (tk K_X11_better 8 rfl) rfl (fun hc => ?_) (fun hc => ?_)
      · have h := h.1 hc
        refine x_iload_n (tk K_X11_better 15 rfl) rfl rfl ?_
        exact x_ireturn (tk K_X11_better 16 rfl) rfl rfl h
      · have h := h.2 hc
        refine x_goto (t := 25) (tk K_X11_better 9 rfl) rfl ?_
        refine x_iload_n (tk K_X11_better 13 rfl) rfl rfl ?_
        refine x_goto (t := 30) (tk K_X11_better 14 rfl) rfl ?_
        exact x_ireturn (tk K_X11_better 16 rfl) rfl rfl h

theorem e_X11_better {X : Cx} {d kc ns : Nat} {M : Mem} {Q : Option AV → Mem → Prop} {a0 : Int32} {a1 : Int32} {a2 : Int32} (h : WA X d kc ns m_X11_better 0 [some (vI a0), some (vI a1), some (vI a2)] [] M Q) : Cl X d kc ns m_X11_better [vI a0, vI a1, vI a2] M Q := Cl.intro (k := 0) (by decide) rfl rfl h

-- TwoPencilsModel.hasHalves(II)Z
theorem b_X11_hasHalves_0 {X : Cx} {d kc ns : Nat} {M : Mem} {Q : Option AV → Mem → Prop} {l1 : Int32} {l2 : Int32} (hS : RfS M)
    (h : WA X d kc ns m_X11_hasHalves 2 [some (vR 75), some (vI l1), some (vI l2), some (vI (nI 0))] [] M Q) :
    WA X d kc ns m_X11_hasHalves 0 [some (vR 75), some (vI l1), some (vI l2), none] [] M Q := by
  refine x_iconst (tk K_X11_hasHalves 0 rfl) ic_0 ?_
  refine x_istore_n (L' := [some (vR _), some (vI _), some (vI _), some (vI _)]) (tk K_X11_hasHalves 1 rfl) rfl rfl (Nat.le_of_ble_eq_true rfl) rfl ?_
  exact h

theorem b_X11_hasHalves_2 {X : Cx} {d kc ns : Nat} {M : Mem} {Q : Option AV → Mem → Prop} {l1 : Int32} {l2 : Int32} {l3 : Int32} (hS : RfS M) (hd : 1 ≤ d)
    (h : (((nI 8) ≤ l3 → ∀ M1 : Mem, M1 = sI M 75 35 (nI 0) → ∀ M2 : Mem, M2 = sI M1 75 42 (nI 0) → Cl X (d - 1) 0 0 m_X11_seekHalves [vR 75, vI (nI 0), vI l1, vI ((nI 2) * l2), vI (nI 0), vI (nI 0)] M2 (fun r M3 => r = none ∧ Ext M2 M3 ∧ (isB (mI M3 75 42) ∧ Q (some (vI (mI M3 75 42))) M3))) ∧ (¬ (nI 8) ≤ l3 → vp_in l3 8 ∧ ∀ M4 : Mem, M4 = sI M 93 (ix l3) (nI 0) → WA X d kc ns m_X11_hasHalves 2 [some (vR 75), some (vI l1), some (vI l2), some (vI (l3 + (nI 1)))] [] M4 Q))) :
    WA X d kc ns m_X11_hasHalves 2 [some (vR 75), some (vI l1), some (vI l2), some (vI l3)] [] M Q := by
  refine x_iload_n (tk K_X11_hasHalves 2 rfl) rfl rfl ?_
  refine x_bipush (tk K_X11_hasHalves 3 rfl) bp_8 ?_
  refine x_icmp_ge (t := 21) (tk K_X11_hasHalves 4 rfl) rfl (fun hc => ?_) (fun hc => ?_)
  · have h := h.1 hc
    refine x_aload_n (tk K_X11_hasHalves 12 rfl) rfl rfl ?_
    refine x_iconst (tk K_X11_hasHalves 13 rfl) ic_0 ?_
    have h := h _ rfl
    refine x_putI (tk K_X11_hasHalves 14 rfl) f_X11_346 rfl (Or.inl rfl) (RfS.o hS) ?_
    refine x_aload_n (tk K_X11_hasHalves 15 rfl) rfl rfl ?_
    refine x_iconst (tk K_X11_hasHalves 16 rfl) ic_0 ?_
    have h := h _ rfl
    refine x_putZ (tk K_X11_hasHalves 17 rfl) f_X11_349 rfl (Or.inl rfl) (RfS.o hS) (Or.inl rfl) ?_
    refine x_aload_n (tk K_X11_hasHalves 18 rfl) rfl rfl ?_
    refine x_iconst (tk K_X11_hasHalves 19 rfl) ic_0 ?_
    refine x_iload_n (tk K_X11_hasHalves 20 rfl) rfl rfl ?_
    refine x_iconst (tk K_X11_hasHalves 21 rfl) ic_2 ?_
    refine x_iload_n (tk K_X11_hasHalves 22 rfl) rfl rfl ?_
    refine x_imul (tk K_X11_hasHalves 23 rfl) ?_
    refine x_iconst (tk K_X11_hasHalves 24 rfl) ic_0 ?_
    refine x_iconst (tk K_X11_hasHalves 25 rfl) ic_0 ?_
    refine x_callV0 (As := [vI _, vI _, vI _, vI _, vI _]) (S := []) (tk K_X11_hasHalves 26 rfl) mk_X11_356 mo_X11_seekHalves (RfS.o hS) rfl rfl (Nat.le_of_ble_eq_true rfl) hd h (fun r M3 hq => ?_)
    obtain ⟨rfl, hE, h⟩ := hq
    have hT0 := RfS.ext hS hE
    refine x_aload_n (tk K_X11_hasHalves 27 rfl) rfl rfl ?_
    refine x_getI (tk K_X11_hasHalves 28 rfl) f_X11_349 rfl (RfS.o hT0) ?_
    exact x_ireturn (tk K_X11_hasHalves 29 rfl) rfl (fitZ h.1).1 h.2
  · have h := h.2 hc
    refine x_aload_n (tk K_X11_hasHalves 5 rfl) rfl rfl ?_
    refine x_getRc (tk K_X11_hasHalves 6 rfl) f_X11_62 rfl (RfS.o hS) (RfS.r34 hS) ?_
    refine x_iload_n (tk K_X11_hasHalves 7 rfl) rfl rfl ?_
    refine x_iconst (tk K_X11_hasHalves 8 rfl) ic_0 ?_
    have hi := h.1
    have h := h.2
    have h := h _ rfl
    refine x_iast (tk K_X11_hasHalves 9 rfl) (RfS.k34 hS) hi ?_
    refine x_iincW (L' := [some (vR _), some (vI _), some (vI _), some (vI _)]) (tk K_X11_hasHalves 10 rfl) rfl ic_1 rfl (Nat.le_of_ble_eq_true rfl) rfl ?_
    refine x_goto (t := 2) (tk K_X11_hasHalves 11 rfl) rfl ?_
    exact h

theorem e_X11_hasHalves {X : Cx} {d kc ns : Nat} {M : Mem} {Q : Option AV → Mem → Prop} {a1 : Int32} {a2 : Int32} (h : WA X d kc ns m_X11_hasHalves 0 [some (vR 75), some (vI a1), some (vI a2), none] [] M Q) : Cl X d kc ns m_X11_hasHalves [vR 75, vI a1, vI a2] M Q := Cl.intro (k := 1) (by decide) rfl rfl h

-- TwoPencilsModel.worth(I)I
theorem b_X11_worth_0 {X : Cx} {d kc ns : Nat} {M : Mem} {Q : Option AV → Mem → Prop} {l1 : Int32} (hS : RfS M)
    (h : vp_in l1 512 ∧ ∀ x1 : Int32, x1 = (mI M 88 (ix l1)) → ((¬ (mI M 75 36) = nI 0 → ((¬ x1 = ((mI M 75 36) - (nI 1)) → Q (some (vI (nI 0))) M) ∧ (x1 = ((mI M 75 36) - (nI 1)) → Q (some (vI (nI 1))) M))) ∧ ((mI M 75 36) = nI 0 → ((¬ x1 = nI 0 → ((¬ x1 = (nI 1) → Q (some (vI (nI 0))) M) ∧ (x1 = (nI 1) → Q (some (vI (-1))) M))) ∧ (x1 = nI 0 → Q (some (vI (nI 1))) M))))) :
    WA X d kc ns m_X11_worth 0 [some (vR 75), some (vI l1), none] [] M Q := by
  refine x_aload_n (tk K_X11_worth 0 rfl) rfl rfl ?_
  refine x_getRc (tk K_X11_worth 1 rfl) f_X11_46 rfl (RfS.o hS) (RfS.r18 hS) ?_
  refine x_iload_n (tk K_X11_worth 2 rfl) rfl rfl ?_
  have hi := h.1
  have h := h.2
  refine x_iald (tk K_X11_worth 3 rfl) (RfS.k18 hS) hi ?_
  have h := h _ rfl
  refine x_istore_n (L' := [some (vR _), some (vI _), some (vI _)]) (tk K_X11_worth 4 rfl) rfl rfl (Nat.le_of_ble_eq_true rfl) rfl ?_
  refine x_aload_n (tk K_X11_worth 5 rfl) rfl rfl ?_
  refine x_getI (tk K_X11_worth 6 rfl) f_X11_378 rfl (RfS.o hS) ?_
  refine x_if_ne (t := 35) (tk K_X11_worth 7 rfl) rfl (fun hc => ?_) (fun hc => ?_)
  · have h := h.1 hc
    refine x_iload_n (tk K_X11_worth 19 rfl) rfl rfl ?_
    refine x_aload_n (tk K_X11_worth 20 rfl) rfl rfl ?_
    refine x_getI (tk K_X11_worth 21 rfl) f_X11_378 rfl (RfS.o hS) ?_
    refine x_iconst (tk K_X11_worth 22 rfl) ic_1 ?_
    refine x_isub (tk K_X11_worth 23 rfl) ?_
    refine x_icmp_ne (t := 49) (tk K_X11_worth 24 rfl) rfl (fun hc => ?_) (fun hc => ?_)
    · have h := h.1 hc
      refine x_iconst (tk K_X11_worth 27 rfl) ic_0 ?_
      exact x_ireturn (tk K_X11_worth 28 rfl) rfl rfl h
    · have h := h.2 hc
      refine x_iconst (tk K_X11_worth 25 rfl) ic_1 ?_
      refine x_goto (t := 50) (tk K_X11_worth 26 rfl) rfl ?_
      exact x_ireturn (tk K_X11_worth 28 rfl) rfl rfl h
  · have h := h.2 hc
    refine x_iload_n (tk K_X11_worth 8 rfl) rfl rfl ?_
    refine x_if_ne (t := 22) (tk K_X11_worth 9 rfl) rfl (fun hc => ?_) (fun hc => ?_)
    · have h := h.1 hc
      refine x_iload_n (tk K_X11_worth 12 rfl) rfl rfl ?_
      refine x_iconst (tk K_X11_worth 13 rfl) ic_1 ?_
      refine x_icmp_ne (t := 31) (tk K_X11_worth 14 rfl) rfl (fun hc => ?_) (fun hc => ?_)
      · have h := h.1 hc
        refine x_iconst (tk K_X11_worth 17 rfl) ic_0 ?_
        refine x_goto (t := 50) (tk K_X11_worth 18 rfl) rfl ?_
        exact x_ireturn (tk K_X11_worth 28 rfl) rfl rfl h
      · have h := h.2 hc
        refine x_iconst (tk K_X11_worth 15 rfl) ic_m1 ?_
        refine x_goto (t := 50) (tk K_X11_worth 16 rfl) rfl ?_
        exact x_ireturn (tk K_X11_worth 28 rfl) rfl rfl h
    · have h := h.2 hc
      refine x_iconst (tk K_X11_worth 10 rfl) ic_1 ?_
      refine x_goto (t := 50) (tk K_X11_worth 11 rfl) rfl ?_
      exact x_ireturn (tk K_X11_worth 28 rfl) rfl rfl h

theorem e_X11_worth {X : Cx} {d kc ns : Nat} {M : Mem} {Q : Option AV → Mem → Prop} {a1 : Int32} (h : WA X d kc ns m_X11_worth 0 [some (vR 75), some (vI a1), none] [] M Q) : Cl X d kc ns m_X11_worth [vR 75, vI a1] M Q := Cl.intro (k := 1) (by decide) rfl rfl h

-- TwoPencilsModel.great(I)I
theorem b_X11_great_0 {X : Cx} {d kc ns : Nat} {M : Mem} {Q : Option AV → Mem → Prop} {l1 : Int32} (hS : RfS M)
    (h : ((¬ (mI M 75 36) = (nI 2) → Q (some (vI ((nI 1) - l1))) M) ∧ ((mI M 75 36) = (nI 2) → Q (some (vI l1)) M))) :
    WA X d kc ns m_X11_great 0 [some (vR 75), some (vI l1)] [] M Q := by
  refine x_aload_n (tk K_X11_great 0 rfl) rfl rfl ?_
  refine x_getI (tk K_X11_great 1 rfl) f_X11_378 rfl (RfS.o hS) ?_
  refine x_iconst (tk K_X11_great 2 rfl) ic_2 ?_
  refine x_icmp_ne (t := 12) (tk K_X11_great 3 rfl) rfl (fun hc => ?_) (fun hc => ?_)
  · have h := h.1 hc
    refine x_iconst (tk K_X11_great 6 rfl) ic_1 ?_
    refine x_iload_n (tk K_X11_great 7 rfl) rfl rfl ?_
    refine x_isub (tk K_X11_great 8 rfl) ?_
    exact x_ireturn (tk K_X11_great 9 rfl) rfl rfl h
  · have h := h.2 hc
    refine x_iload_n (tk K_X11_great 4 rfl) rfl rfl ?_
    refine x_goto (t := 15) (tk K_X11_great 5 rfl) rfl ?_
    exact x_ireturn (tk K_X11_great 9 rfl) rfl rfl h

theorem e_X11_great {X : Cx} {d kc ns : Nat} {M : Mem} {Q : Option AV → Mem → Prop} {a1 : Int32} (h : WA X d kc ns m_X11_great 0 [some (vR 75), some (vI a1)] [] M Q) : Cl X d kc ns m_X11_great [vR 75, vI a1] M Q := Cl.intro (k := 0) (by decide) rfl rfl h

-- TwoPencilsModel.cutWorth(III)I
theorem b_X11_cutWorth_0 {X : Cx} {d kc ns : Nat} {M : Mem} {Q : Option AV → Mem → Prop} {l1 : Int32} {l2 : Int32} {l3 : Int32} (hS : RfS M)
    (h : WA X d kc ns m_X11_cutWorth 6 [some (vR 75), some (vI l1), some (vI l2), some (vI l3), some (vI (nI 0)), some (vI (nI 0))] [] M Q) :
    WA X d kc ns m_X11_cutWorth 0 [some (vR 75), some (vI l1), some (vI l2), some (vI l3), none, none] [] M Q := by
  refine x_iconst (tk K_X11_cutWorth 0 rfl) ic_0 ?_
  refine x_istore (L' := [some (vR _), some (vI _), some (vI _), some (vI _), some (vI _), none]) (tk K_X11_cutWorth 1 rfl) rfl (Nat.le_of_ble_eq_true rfl) rfl ?_
  refine x_iconst (tk K_X11_cutWorth 2 rfl) ic_0 ?_
  refine x_istore (L' := [some (vR _), some (vI _), some (vI _), some (vI _), some (vI _), some (vI _)]) (tk K_X11_cutWorth 3 rfl) rfl (Nat.le_of_ble_eq_true rfl) rfl ?_
  exact h

theorem b_X11_cutWorth_6 {X : Cx} {d kc ns : Nat} {M : Mem} {Q : Option AV → Mem → Prop} {l1 : Int32} {l2 : Int32} {l3 : Int32} {l4 : Int32} {l5 : Int32} (hS : RfS M) (hd : 1 ≤ d)
    (h : ((l3 ≤ l5 → Q (some (vI l4)) M) ∧ (¬ l3 ≤ l5 → Cl X (d - 1) 0 0 m_X11_seatOf [vR 75, vI l1, vI l2, vI l5] M (fun r M1 => ∃ x1 : Int32, r = some (vI x1) ∧ Ext M M1 ∧ Cl X (d - 1) 0 0 m_X11_worth [vR 75, vI x1] M1 (fun r M2 => ∃ x2 : Int32, r = some (vI x2) ∧ Ext M1 M2 ∧ ∀ x3 : Int32, x3 = (l4 + x2) → WA X d kc ns m_X11_cutWorth 6 [some (vR 75), some (vI l1), some (vI l2), some (vI l3), some (vI x3), some (vI (l5 + (nI 1)))] [] M2 Q))))) :
    WA X d kc ns m_X11_cutWorth 6 [some (vR 75), some (vI l1), some (vI l2), some (vI l3), some (vI l4), some (vI l5)] [] M Q := by
  refine x_iload (tk K_X11_cutWorth 4 rfl) rfl ?_
  refine x_iload_n (tk K_X11_cutWorth 5 rfl) rfl rfl ?_
  refine x_icmp_ge (t := 35) (tk K_X11_cutWorth 6 rfl) rfl (fun hc => ?_) (fun hc => ?_)
  · have h := h.1 hc
    refine x_iload (tk K_X11_cutWorth 19 rfl) rfl ?_
    exact x_ireturn (tk K_X11_cutWorth 20 rfl) rfl rfl h
  · have h := h.2 hc
    refine x_iload (tk K_X11_cutWorth 7 rfl) rfl ?_
    refine x_aload_n (tk K_X11_cutWorth 8 rfl) rfl rfl ?_
    refine x_aload_n (tk K_X11_cutWorth 9 rfl) rfl rfl ?_
    refine x_iload_n (tk K_X11_cutWorth 10 rfl) rfl rfl ?_
    refine x_iload_n (tk K_X11_cutWorth 11 rfl) rfl rfl ?_
    refine x_iload (tk K_X11_cutWorth 12 rfl) rfl ?_
    refine x_callV0 (As := [vI _, vI _, vI _]) (S := [vR _, vI _]) (tk K_X11_cutWorth 13 rfl) mk_X11_199 mo_X11_seatOf (RfS.o hS) rfl rfl (Nat.le_of_ble_eq_true rfl) hd h (fun r M1 hq => ?_)
    obtain ⟨x1, rfl, hE, h⟩ := hq
    have hT0 := RfS.ext hS hE
    refine x_callV0 (As := [vI _]) (S := [vI _]) (tk K_X11_cutWorth 14 rfl) mk_X11_372 mo_X11_worth (RfS.o hT0) rfl rfl (Nat.le_of_ble_eq_true rfl) hd h (fun r M2 hq => ?_)
    obtain ⟨x2, rfl, hE, h⟩ := hq
    have hT1 := RfS.ext hT0 hE
    refine x_iadd (tk K_X11_cutWorth 15 rfl) ?_
    have h := h _ rfl
    refine x_istore (L' := [some (vR _), some (vI _), some (vI _), some (vI _), some (vI _), some (vI _)]) (tk K_X11_cutWorth 16 rfl) rfl (Nat.le_of_ble_eq_true rfl) rfl ?_
    refine x_iincW (L' := [some (vR _), some (vI _), some (vI _), some (vI _), some (vI _), some (vI _)]) (tk K_X11_cutWorth 17 rfl) rfl ic_1 rfl (Nat.le_of_ble_eq_true rfl) rfl ?_
    refine x_goto (t := 6) (tk K_X11_cutWorth 18 rfl) rfl ?_
    exact h

theorem e_X11_cutWorth {X : Cx} {d kc ns : Nat} {M : Mem} {Q : Option AV → Mem → Prop} {a1 : Int32} {a2 : Int32} {a3 : Int32} (h : WA X d kc ns m_X11_cutWorth 0 [some (vR 75), some (vI a1), some (vI a2), some (vI a3), none, none] [] M Q) : Cl X d kc ns m_X11_cutWorth [vR 75, vI a1, vI a2, vI a3] M Q := Cl.intro (k := 2) (by decide) rfl rfl h

-- TwoPencilsModel.begin(I)V
theorem b_X11_begin_0 {X : Cx} {d kc ns : Nat} {M : Mem} {Q : Option AV → Mem → Prop} {l1 : Int32} (hS : RfS M)
    (h : ∀ M1 : Mem, M1 = sI M 75 36 l1 → WA X d kc ns m_X11_begin 7 [some (vR 75), none, some (vI (nI 0))] [] M1 Q) :
    WA X d kc ns m_X11_begin 0 [some (vR 75), some (vI l1), none] [] M Q := by
  refine x_aload_n (tk K_X11_begin 0 rfl) rfl rfl ?_
  refine x_iload_n (tk K_X11_begin 1 rfl) rfl rfl ?_
  have h := h _ rfl
  refine x_putI (tk K_X11_begin 2 rfl) f_X11_378 rfl (Or.inl rfl) (RfS.o hS) ?_
  refine x_iconst (tk K_X11_begin 3 rfl) ic_0 ?_
  refine x_istore_n (L' := [some (vR _), some (vI _), some (vI _)]) (tk K_X11_begin 4 rfl) rfl rfl (Nat.le_of_ble_eq_true rfl) rfl ?_
  refine x_msk [true, false, true] ?_
  exact h

theorem b_X11_begin_7 {X : Cx} {d kc ns : Nat} {M : Mem} {Q : Option AV → Mem → Prop} {l2 : Int32} (hS : RfS M)
    (h : (((nI 2560) ≤ l2 → Q none M) ∧ (¬ (nI 2560) ≤ l2 → vp_in l2 2560 ∧ ∀ M1 : Mem, M1 = sI M 95 (ix l2) (vp_nar .boolean (nI 0)) → WA X d kc ns m_X11_begin 7 [some (vR 75), none, some (vI (l2 + (nI 1)))] [] M1 Q))) :
    WA X d kc ns m_X11_begin 7 [some (vR 75), none, some (vI l2)] [] M Q := by
  refine x_iload_n (tk K_X11_begin 5 rfl) rfl rfl ?_
  refine x_sipush (tk K_X11_begin 6 rfl) sp_2560 ?_
  refine x_icmp_ge (t := 27) (tk K_X11_begin 7 rfl) rfl (fun hc => ?_) (fun hc => ?_)
  · have h := h.1 hc
    exact x_return (tk K_X11_begin 15 rfl) rfl h
  · have h := h.2 hc
    refine x_aload_n (tk K_X11_begin 8 rfl) rfl rfl ?_
    refine x_getRc (tk K_X11_begin 9 rfl) f_X11_68 rfl (RfS.o hS) (RfS.r44 hS) ?_
    refine x_iload_n (tk K_X11_begin 10 rfl) rfl rfl ?_
    refine x_iconst (tk K_X11_begin 11 rfl) ic_0 ?_
    have hi := h.1
    have h := h.2
    have h := h _ rfl
    refine x_zast (tk K_X11_begin 12 rfl) (RfS.k44 hS) hi ?_
    refine x_iincW (L' := [some (vR _), none, some (vI _)]) (tk K_X11_begin 13 rfl) rfl ic_1 rfl (Nat.le_of_ble_eq_true rfl) rfl ?_
    refine x_goto (t := 7) (tk K_X11_begin 14 rfl) rfl ?_
    exact h

theorem e_X11_begin {X : Cx} {d kc ns : Nat} {M : Mem} {Q : Option AV → Mem → Prop} {a1 : Int32} (h : WA X d kc ns m_X11_begin 0 [some (vR 75), some (vI a1), none] [] M Q) : Cl X d kc ns m_X11_begin [vR 75, vI a1] M Q := Cl.intro (k := 1) (by decide) rfl rfl h

-- TwoPencilsModel.roundOf(I)I
theorem b_X11_roundOf_0 {X : Cx} {d kc ns : Nat} {M : Mem} {Q : Option AV → Mem → Prop} {l1 : Int32} (hS : RfS M)
    (h : vp_in (mI M 75 19) 7 ∧ vp_in (mI M 75 24) 9 ∧ ¬ (mI M 84 (ix (mI M 75 24))) = nI 0 ∧ Q (some (vI (((nI 6) * (mI M 75 24)) + (remI ((mI M 78 (ix (mI M 75 19))) - l1) (mI M 84 (ix (mI M 75 24))))))) M) :
    WA X d kc ns m_X11_roundOf 0 [some (vR 75), some (vI l1)] [] M Q := by
  refine x_bipush (tk K_X11_roundOf 0 rfl) bp_6 ?_
  refine x_aload_n (tk K_X11_roundOf 1 rfl) rfl rfl ?_
  refine x_getI (tk K_X11_roundOf 2 rfl) f_X11_273 rfl (RfS.o hS) ?_
  refine x_imul (tk K_X11_roundOf 3 rfl) ?_
  refine x_aload_n (tk K_X11_roundOf 4 rfl) rfl rfl ?_
  refine x_getRc (tk K_X11_roundOf 5 rfl) f_X11_16 rfl (RfS.o hS) (RfS.r6 hS) ?_
  refine x_aload_n (tk K_X11_roundOf 6 rfl) rfl rfl ?_
  refine x_getI (tk K_X11_roundOf 7 rfl) f_X11_184 rfl (RfS.o hS) ?_
  have hi := h.1
  have h := h.2
  refine x_iald (tk K_X11_roundOf 8 rfl) (RfS.k6 hS) hi ?_
  refine x_iload_n (tk K_X11_roundOf 9 rfl) rfl rfl ?_
  refine x_isub (tk K_X11_roundOf 10 rfl) ?_
  refine x_aload_n (tk K_X11_roundOf 11 rfl) rfl rfl ?_
  refine x_getRc (tk K_X11_roundOf 12 rfl) f_X11_34 rfl (RfS.o hS) (RfS.r13 hS) ?_
  refine x_aload_n (tk K_X11_roundOf 13 rfl) rfl rfl ?_
  refine x_getI (tk K_X11_roundOf 14 rfl) f_X11_273 rfl (RfS.o hS) ?_
  have hi := h.1
  have h := h.2
  refine x_iald (tk K_X11_roundOf 15 rfl) (RfS.k13 hS) hi ?_
  refine x_iremR (tk K_X11_roundOf 16 rfl) h.1 ?_
  have h := h.2
  refine x_iadd (tk K_X11_roundOf 17 rfl) ?_
  exact x_ireturn (tk K_X11_roundOf 18 rfl) rfl rfl h

theorem e_X11_roundOf {X : Cx} {d kc ns : Nat} {M : Mem} {Q : Option AV → Mem → Prop} {a1 : Int32} (h : WA X d kc ns m_X11_roundOf 0 [some (vR 75), some (vI a1)] [] M Q) : Cl X d kc ns m_X11_roundOf [vR 75, vI a1] M Q := Cl.intro (k := 0) (by decide) rfl rfl h

-- TwoPencilsModel.comes(II)I
theorem b_X11_comes_0 {X : Cx} {d kc ns : Nat} {M : Mem} {Q : Option AV → Mem → Prop} {l1 : Int32} {l2 : Int32} (hS : RfS M) (hd : 1 ≤ d)
    (h : ((¬ l2 = nI 0 → ∀ x1 : Int32, x1 = (((nI 512) * l2) + l1) → vp_in x1 2560 ∧ ((¬ (mI M 95 (ix x1)) = nI 0 → vp_in x1 2560 ∧ Q (some (vI (mI M 94 (ix x1)))) M) ∧ ((mI M 95 (ix x1)) = nI 0 → Cl X (d - 1) 0 0 m_X11_comesOf [vR 75, vI l1, vI l2] M (fun r M1 => ∃ x2 : Int32, r = some (vI x2) ∧ Ext M M1 ∧ vp_in x1 2560 ∧ ∀ M2 : Mem, M2 = sI M1 94 (ix x1) x2 → vp_in x1 2560 ∧ ∀ M3 : Mem, M3 = sI M2 95 (ix x1) (vp_nar .boolean (nI 1)) → vp_in x1 2560 ∧ Q (some (vI (mI M3 94 (ix x1)))) M3)))) ∧ (l2 = nI 0 → Q (some (vI (nI 0))) M))) :
    WA X d kc ns m_X11_comes 0 [some (vR 75), some (vI l1), some (vI l2), none] [] M Q := by
  refine x_iload_n (tk K_X11_comes 0 rfl) rfl rfl ?_
  refine x_if_ne (t := 6) (tk K_X11_comes 1 rfl) rfl (fun hc => ?_) (fun hc => ?_)
  · have h := h.1 hc
    refine x_sipush (tk K_X11_comes 4 rfl) sp_512 ?_
    refine x_iload_n (tk K_X11_comes 5 rfl) rfl rfl ?_
    refine x_imul (tk K_X11_comes 6 rfl) ?_
    refine x_iload_n (tk K_X11_comes 7 rfl) rfl rfl ?_
    refine x_iadd (tk K_X11_comes 8 rfl) ?_
    have h := h _ rfl
    refine x_istore_n (L' := [some (vR _), some (vI _), some (vI _), some (vI _)]) (tk K_X11_comes 9 rfl) rfl rfl (Nat.le_of_ble_eq_true rfl) rfl ?_
    refine x_aload_n (tk K_X11_comes 10 rfl) rfl rfl ?_
    refine x_getRc (tk K_X11_comes 11 rfl) f_X11_68 rfl (RfS.o hS) (RfS.r44 hS) ?_
    refine x_iload_n (tk K_X11_comes 12 rfl) rfl rfl ?_
    have hi := h.1
    have h := h.2
    refine x_zald (tk K_X11_comes 13 rfl) (RfS.k44 hS) hi ?_
    refine x_if_ne (t := 42) (tk K_X11_comes 14 rfl) rfl (fun hc => ?_) (fun hc => ?_)
    · have h := h.1 hc
      refine x_aload_n (tk K_X11_comes 28 rfl) rfl rfl ?_
      refine x_getRc (tk K_X11_comes 29 rfl) f_X11_65 rfl (RfS.o hS) (RfS.r43 hS) ?_
      refine x_iload_n (tk K_X11_comes 30 rfl) rfl rfl ?_
      have hi := h.1
      have h := h.2
      refine x_iald (tk K_X11_comes 31 rfl) (RfS.k43 hS) hi ?_
      exact x_ireturn (tk K_X11_comes 32 rfl) rfl rfl h
    · have h := h.2 hc
      refine x_aload_n (tk K_X11_comes 15 rfl) rfl rfl ?_
      refine x_getRc (tk K_X11_comes 16 rfl) f_X11_65 rfl (RfS.o hS) (RfS.r43 hS) ?_
      refine x_iload_n (tk K_X11_comes 17 rfl) rfl rfl ?_
      refine x_aload_n (tk K_X11_comes 18 rfl) rfl rfl ?_
      refine x_iload_n (tk K_X11_comes 19 rfl) rfl rfl ?_
      refine x_iload_n (tk K_X11_comes 20 rfl) rfl rfl ?_
      refine x_callV0 (As := [vI _, vI _]) (S := [vI _, vR _]) (tk K_X11_comes 21 rfl) mk_X11_381 mo_X11_comesOf (RfS.o hS) rfl rfl (Nat.le_of_ble_eq_true rfl) hd h (fun r M1 hq => ?_)
      obtain ⟨x2, rfl, hE, h⟩ := hq
      have hT0 := RfS.ext hS hE
      have hT1 := hE.1 _ _ _ (RfS.k44 hS)
      have hT2 := hE.1 _ _ _ (RfS.k43 hS)
      have hi := h.1
      have h := h.2
      have h := h _ rfl
      refine x_iast (tk K_X11_comes 22 rfl) hT2 hi ?_
      refine x_aload_n (tk K_X11_comes 23 rfl) rfl rfl ?_
      refine x_getRc (tk K_X11_comes 24 rfl) f_X11_68 rfl (RfS.o hT0) (RfS.r44 hT0) ?_
      refine x_iload_n (tk K_X11_comes 25 rfl) rfl rfl ?_
      refine x_iconst (tk K_X11_comes 26 rfl) ic_1 ?_
      have hi := h.1
      have h := h.2
      have h := h _ rfl
      refine x_zast (tk K_X11_comes 27 rfl) (RfS.k44 hT0) hi ?_
      refine x_aload_n (tk K_X11_comes 28 rfl) rfl rfl ?_
      refine x_getRc (tk K_X11_comes 29 rfl) f_X11_65 rfl (RfS.o hT0) (RfS.r43 hT0) ?_
      refine x_iload_n (tk K_X11_comes 30 rfl) rfl rfl ?_
      have hi := h.1
      have h := h.2
      refine x_iald (tk K_X11_comes 31 rfl) (RfS.k43 hT0) hi ?_
      exact x_ireturn (tk K_X11_comes 32 rfl) rfl rfl h
  · have h := h.2 hc
    refine x_iconst (tk K_X11_comes 2 rfl) ic_0 ?_
    exact x_ireturn (tk K_X11_comes 3 rfl) rfl rfl h

theorem e_X11_comes {X : Cx} {d kc ns : Nat} {M : Mem} {Q : Option AV → Mem → Prop} {a1 : Int32} {a2 : Int32} (h : WA X d kc ns m_X11_comes 0 [some (vR 75), some (vI a1), some (vI a2), none] [] M Q) : Cl X d kc ns m_X11_comes [vR 75, vI a1, vI a2] M Q := Cl.intro (k := 1) (by decide) rfl rfl h

-- TwoPencilsModel.comesOf(II)I
theorem b_X11_comesOf_0 {X : Cx} {d kc ns : Nat} {M : Mem} {Q : Option AV → Mem → Prop} {l1 : Int32} {l2 : Int32} (hS : RfS M) (hd : 1 ≤ d)
    (h : Cl X (d - 1) 0 0 m_X11_roundOf [vR 75, vI l2] M (fun r M1 => ∃ x1 : Int32, r = some (vI x1) ∧ Ext M M1 ∧ vp_in x1 54 ∧ ∀ x2 : Int32, x2 = ((mI M1 85 (ix x1)) ^^^ (mI M1 75 25)) → vp_in x1 54 ∧ ((¬ (mI M1 86 (ix x1)) = (nI 1) → Cl X (d - 1) 0 0 m_X11_list [vR 75, vI l2, vI l1, vI l2] M1 (fun r M2 => ∃ x3 : Int32, r = some (vI x3) ∧ Ext M1 M2 ∧ WA X d kc ns m_X11_comesOf 64 [some (vR 75), some (vI l1), some (vI l2), some (vI x1), some (vI x2), some (vI x3), some (vI (nI 1000)), some (vI (nI 1000)), some (vI (nI 0)), none, none, none] [] M2 Q)) ∧ ((mI M1 86 (ix x1)) = (nI 1) → Cl X (d - 1) 0 0 m_X11_great [vR 75, vI x2] M1 (fun r M3 => ∃ x4 : Int32, r = some (vI x4) ∧ Ext M1 M3 ∧ Cl X (d - 1) 0 0 m_X11_halvesValue [vR 75, vI l1, vI l2, vI x4] M3 (fun r M4 => ∃ x5 : Int32, r = some (vI x5) ∧ Ext M3 M4 ∧ Q (some (vI x5)) M4)))))) :
    WA X d kc ns m_X11_comesOf 0 [some (vR 75), some (vI l1), some (vI l2), none, none, none, none, none, none, none, none, none] [] M Q := by
  refine x_aload_n (tk K_X11_comesOf 0 rfl) rfl rfl ?_
  refine x_iload_n (tk K_X11_comesOf 1 rfl) rfl rfl ?_
  refine x_callV0 (As := [vI _]) (S := []) (tk K_X11_comesOf 2 rfl) mk_X11_384 mo_X11_roundOf (RfS.o hS) rfl rfl (Nat.le_of_ble_eq_true rfl) hd h (fun r M1 hq => ?_)
  obtain ⟨x1, rfl, hE, h⟩ := hq
  have hT0 := RfS.ext hS hE
  refine x_istore_n (L' := [some (vR _), some (vI _), some (vI _), some (vI _), none, none, none, none, none, none, none, none]) (tk K_X11_comesOf 3 rfl) rfl rfl (Nat.le_of_ble_eq_true rfl) rfl ?_
  refine x_aload_n (tk K_X11_comesOf 4 rfl) rfl rfl ?_
  refine x_getRc (tk K_X11_comesOf 5 rfl) f_X11_37 rfl (RfS.o hT0) (RfS.r14 hT0) ?_
  refine x_iload_n (tk K_X11_comesOf 6 rfl) rfl rfl ?_
  have hi := h.1
  have h := h.2
  refine x_iald (tk K_X11_comesOf 7 rfl) (RfS.k14 hT0) hi ?_
  refine x_aload_n (tk K_X11_comesOf 8 rfl) rfl rfl ?_
  refine x_getI (tk K_X11_comesOf 9 rfl) f_X11_279 rfl (RfS.o hT0) ?_
  refine x_ixor (tk K_X11_comesOf 10 rfl) ?_
  have h := h _ rfl
  refine x_istore (L' := [some (vR _), some (vI _), some (vI _), some (vI _), some (vI _), none, none, none, none, none, none, none]) (tk K_X11_comesOf 11 rfl) rfl (Nat.le_of_ble_eq_true rfl) rfl ?_
  refine x_aload_n (tk K_X11_comesOf 12 rfl) rfl rfl ?_
  refine x_getRc (tk K_X11_comesOf 13 rfl) f_X11_40 rfl (RfS.o hT0) (RfS.r15 hT0) ?_
  refine x_iload_n (tk K_X11_comesOf 14 rfl) rfl rfl ?_
  have hi := h.1
  have h := h.2
  refine x_iald (tk K_X11_comesOf 15 rfl) (RfS.k15 hT0) hi ?_
  refine x_iconst (tk K_X11_comesOf 16 rfl) ic_1 ?_
  refine x_icmp_ne (t := 42) (tk K_X11_comesOf 17 rfl) rfl (fun hc => ?_) (fun hc => ?_)
  · have h := h.1 hc
    refine x_aload_n (tk K_X11_comesOf 26 rfl) rfl rfl ?_
    refine x_iload_n (tk K_X11_comesOf 27 rfl) rfl rfl ?_
    refine x_iload_n (tk K_X11_comesOf 28 rfl) rfl rfl ?_
    refine x_iload_n (tk K_X11_comesOf 29 rfl) rfl rfl ?_
    refine x_callV0 (As := [vI _, vI _, vI _]) (S := []) (tk K_X11_comesOf 30 rfl) mk_X11_233 mo_X11_list (RfS.o hT0) rfl rfl (Nat.le_of_ble_eq_true rfl) hd h (fun r M2 hq => ?_)
    obtain ⟨x3, rfl, hE, h⟩ := hq
    have hT1 := RfS.ext hT0 hE
    have hT2 := hE.1 _ _ _ (RfS.k14 hT0)
    have hT3 := hE.1 _ _ _ (RfS.k15 hT0)
    refine x_istore (L' := [some (vR _), some (vI _), some (vI _), some (vI _), some (vI _), some (vI _), none, none, none, none, none, none]) (tk K_X11_comesOf 31 rfl) rfl (Nat.le_of_ble_eq_true rfl) rfl ?_
    refine x_sipush (tk K_X11_comesOf 32 rfl) sp_1000 ?_
    refine x_istore (L' := [some (vR _), some (vI _), some (vI _), some (vI _), some (vI _), some (vI _), some (vI _), none, none, none, none, none]) (tk K_X11_comesOf 33 rfl) rfl (Nat.le_of_ble_eq_true rfl) rfl ?_
    refine x_sipush (tk K_X11_comesOf 34 rfl) sp_1000 ?_
    refine x_istore (L' := [some (vR _), some (vI _), some (vI _), some (vI _), some (vI _), some (vI _), some (vI _), some (vI _), none, none, none, none]) (tk K_X11_comesOf 35 rfl) rfl (Nat.le_of_ble_eq_true rfl) rfl ?_
    refine x_iconst (tk K_X11_comesOf 36 rfl) ic_0 ?_
    refine x_istore (L' := [some (vR _), some (vI _), some (vI _), some (vI _), some (vI _), some (vI _), some (vI _), some (vI _), some (vI _), none, none, none]) (tk K_X11_comesOf 37 rfl) rfl (Nat.le_of_ble_eq_true rfl) rfl ?_
    exact h
  · have h := h.2 hc
    refine x_aload_n (tk K_X11_comesOf 18 rfl) rfl rfl ?_
    refine x_iload_n (tk K_X11_comesOf 19 rfl) rfl rfl ?_
    refine x_iload_n (tk K_X11_comesOf 20 rfl) rfl rfl ?_
    refine x_aload_n (tk K_X11_comesOf 21 rfl) rfl rfl ?_
    refine x_iload (tk K_X11_comesOf 22 rfl) rfl ?_
    refine x_callV0 (As := [vI _]) (S := [vI _, vI _, vR _]) (tk K_X11_comesOf 23 rfl) mk_X11_387 mo_X11_great (RfS.o hT0) rfl rfl (Nat.le_of_ble_eq_true rfl) hd h (fun r M3 hq => ?_)
    obtain ⟨x4, rfl, hE, h⟩ := hq
    have hT4 := RfS.ext hT0 hE
    have hT5 := hE.1 _ _ _ (RfS.k14 hT0)
    have hT6 := hE.1 _ _ _ (RfS.k15 hT0)
    refine x_callV0 (As := [vI _, vI _, vI _]) (S := []) (tk K_X11_comesOf 24 rfl) mk_X11_390 mo_X11_halvesValue (RfS.o hT4) rfl rfl (Nat.le_of_ble_eq_true rfl) hd h (fun r M4 hq => ?_)
    obtain ⟨x5, rfl, hE, h⟩ := hq
    have hT7 := RfS.ext hT4 hE
    have hT8 := hE.1 _ _ _ hT5
    have hT9 := hE.1 _ _ _ hT6
    exact x_ireturn (tk K_X11_comesOf 25 rfl) rfl rfl h

theorem b_X11_comesOf_64 {X : Cx} {d kc ns : Nat} {M : Mem} {Q : Option AV → Mem → Prop} {l1 : Int32} {l2 : Int32} {l3 : Int32} {l4 : Int32} {l5 : Int32} {l6 : Int32} {l7 : Int32} {l8 : Int32} (hS : RfS M) (hd : 1 ≤ d)
    (h : ((l5 ≤ l8 → ((¬ l5 = nI 0 → vp_in l3 54 ∧ ((¬ (mI M 86 (ix l3)) = (nI 2) → Q (some (vI l6)) M) ∧ ((mI M 86 (ix l3)) = (nI 2) → ((l5 ≤ (nI 1) → Q (some (vI l6)) M) ∧ (¬ l5 ≤ (nI 1) → Q (some (vI l7)) M))))) ∧ (l5 = nI 0 → Q (some (vI (nI 0))) M))) ∧ (¬ l5 ≤ l8 → vp_in (((nI 8000) * l2) + l8) 40000 ∧ ∀ x1 : Int32, x1 = (mI M 89 (ix (((nI 8000) * l2) + l8))) → vp_in l3 54 ∧ ((¬ (mI M 86 (ix l3)) = nI 0 → Cl X (d - 1) 0 0 m_X11_cutWorth [vR 75, vI x1, vI l1, vI l2] M (fun r M1 => ∃ x2 : Int32, r = some (vI x2) ∧ Ext M M1 ∧ WA X d kc ns m_X11_comesOf 122 [some (vR 75), some (vI l1), some (vI l2), some (vI l3), some (vI l4), some (vI l5), some (vI l6), some (vI l7), some (vI l8), none, none, none] [vI x2] M1 Q)) ∧ ((mI M 86 (ix l3)) = nI 0 → Cl X (d - 1) 0 0 m_X11_great [vR 75, vI ((nI 1) - l4)] M (fun r M2 => ∃ x3 : Int32, r = some (vI x3) ∧ Ext M M2 ∧ Cl X (d - 1) 0 0 m_X11_keepValue [vR 75, vI x1, vI l1, vI l2, vI x3] M2 (fun r M3 => ∃ x4 : Int32, r = some (vI x4) ∧ Ext M2 M3 ∧ WA X d kc ns m_X11_comesOf 122 [some (vR 75), some (vI l1), some (vI l2), some (vI l3), some (vI l4), some (vI l5), some (vI l6), some (vI l7), some (vI l8), none, none, none] [vI x4] M3 Q))))))) :
    WA X d kc ns m_X11_comesOf 64 [some (vR 75), some (vI l1), some (vI l2), some (vI l3), some (vI l4), some (vI l5), some (vI l6), some (vI l7), some (vI l8), none, none, none] [] M Q := by
  refine x_iload (tk K_X11_comesOf 38 rfl) rfl ?_
  refine x_iload (tk K_X11_comesOf 39 rfl) rfl ?_
  refine x_icmp_ge (t := 209) (tk K_X11_comesOf 40 rfl) rfl (fun hc => ?_) (fun hc => ?_)
  · have h := h.1 hc
    refine x_iload (tk K_X11_comesOf 109 rfl) rfl ?_
    refine x_if_ne (t := 218) (tk K_X11_comesOf 110 rfl) rfl (fun hc => ?_) (fun hc => ?_)
    · have h := h.1 hc
      refine x_aload_n (tk K_X11_comesOf 113 rfl) rfl rfl ?_
      refine x_getRc (tk K_X11_comesOf 114 rfl) f_X11_40 rfl (RfS.o hS) (RfS.r15 hS) ?_
      refine x_iload_n (tk K_X11_comesOf 115 rfl) rfl rfl ?_
      have hi := h.1
      have h := h.2
      refine x_iald (tk K_X11_comesOf 116 rfl) (RfS.k15 hS) hi ?_
      refine x_iconst (tk K_X11_comesOf 117 rfl) ic_2 ?_
      refine x_icmp_ne (t := 239) (tk K_X11_comesOf 118 rfl) rfl (fun hc => ?_) (fun hc => ?_)
      · have h := h.1 hc
        refine x_iload (tk K_X11_comesOf 124 rfl) rfl ?_
        exact x_ireturn (tk K_X11_comesOf 125 rfl) rfl rfl h
      · have h := h.2 hc
        refine x_iload (tk K_X11_comesOf 119 rfl) rfl ?_
        refine x_iconst (tk K_X11_comesOf 120 rfl) ic_1 ?_
        refine x_icmp_le (t := 239) (tk K_X11_comesOf 121 rfl) rfl (fun hc => ?_) (fun hc => ?_)
        · have h := h.1 hc
          refine x_iload (tk K_X11_comesOf 124 rfl) rfl ?_
          exact x_ireturn (tk K_X11_comesOf 125 rfl) rfl rfl h
        · have h := h.2 hc
          refine x_iload (tk K_X11_comesOf 122 rfl) rfl ?_
          refine x_goto (t := 241) (tk K_X11_comesOf 123 rfl) rfl ?_
          exact x_ireturn (tk K_X11_comesOf 125 rfl) rfl rfl h
    · have h := h.2 hc
      refine x_iconst (tk K_X11_comesOf 111 rfl) ic_0 ?_
      refine x_goto (t := 241) (tk K_X11_comesOf 112 rfl) rfl ?_
      exact x_ireturn (tk K_X11_comesOf 125 rfl) rfl rfl h
  · have h := h.2 hc
    refine x_aload_n (tk K_X11_comesOf 41 rfl) rfl rfl ?_
    refine x_getRc (tk K_X11_comesOf 42 rfl) f_X11_50 rfl (RfS.o hS) (RfS.r20 hS) ?_
    refine x_sipush (tk K_X11_comesOf 43 rfl) sp_8000 ?_
    refine x_iload_n (tk K_X11_comesOf 44 rfl) rfl rfl ?_
    refine x_imul (tk K_X11_comesOf 45 rfl) ?_
    refine x_iload (tk K_X11_comesOf 46 rfl) rfl ?_
    refine x_iadd (tk K_X11_comesOf 47 rfl) ?_
    have hi := h.1
    have h := h.2
    refine x_iald (tk K_X11_comesOf 48 rfl) (RfS.k20 hS) hi ?_
    have h := h _ rfl
    refine x_istore (L' := [some (vR _), some (vI _), some (vI _), some (vI _), some (vI _), some (vI _), some (vI _), some (vI _), some (vI _), some (vI _), none, none]) (tk K_X11_comesOf 49 rfl) rfl (Nat.le_of_ble_eq_true rfl) rfl ?_
    refine x_aload_n (tk K_X11_comesOf 50 rfl) rfl rfl ?_
    refine x_getRc (tk K_X11_comesOf 51 rfl) f_X11_40 rfl (RfS.o hS) (RfS.r15 hS) ?_
    refine x_iload_n (tk K_X11_comesOf 52 rfl) rfl rfl ?_
    have hi := h.1
    have h := h.2
    refine x_iald (tk K_X11_comesOf 53 rfl) (RfS.k15 hS) hi ?_
    refine x_if_ne (t := 114) (tk K_X11_comesOf 54 rfl) rfl (fun hc => ?_) (fun hc => ?_)
    · have h := h.1 hc
      refine x_aload_n (tk K_X11_comesOf 66 rfl) rfl rfl ?_
      refine x_iload (tk K_X11_comesOf 67 rfl) rfl ?_
      refine x_iload_n (tk K_X11_comesOf 68 rfl) rfl rfl ?_
      refine x_iload_n (tk K_X11_comesOf 69 rfl) rfl rfl ?_
      refine x_callV0 (As := [vI _, vI _, vI _]) (S := []) (tk K_X11_comesOf 70 rfl) mk_X11_396 mo_X11_cutWorth (RfS.o hS) rfl rfl (Nat.le_of_ble_eq_true rfl) hd h (fun r M1 hq => ?_)
      obtain ⟨x2, rfl, hE, h⟩ := hq
      have hT0 := RfS.ext hS hE
      have hT1 := hE.1 _ _ _ (RfS.k20 hS)
      have hT2 := hE.1 _ _ _ (RfS.k15 hS)
      refine x_msk [true, true, true, true, true, true, true, true, true, false, false, false] ?_
      exact h
    · have h := h.2 hc
      refine x_aload_n (tk K_X11_comesOf 55 rfl) rfl rfl ?_
      refine x_iload (tk K_X11_comesOf 56 rfl) rfl ?_
      refine x_iload_n (tk K_X11_comesOf 57 rfl) rfl rfl ?_
      refine x_iload_n (tk K_X11_comesOf 58 rfl) rfl rfl ?_
      refine x_aload_n (tk K_X11_comesOf 59 rfl) rfl rfl ?_
      refine x_iconst (tk K_X11_comesOf 60 rfl) ic_1 ?_
      refine x_iload (tk K_X11_comesOf 61 rfl) rfl ?_
      refine x_isub (tk K_X11_comesOf 62 rfl) ?_
      refine x_callV0 (As := [vI _]) (S := [vI _, vI _, vI _, vR _]) (tk K_X11_comesOf 63 rfl) mk_X11_387 mo_X11_great (RfS.o hS) rfl rfl (Nat.le_of_ble_eq_true rfl) hd h (fun r M2 hq => ?_)
      obtain ⟨x3, rfl, hE, h⟩ := hq
      have hT3 := RfS.ext hS hE
      have hT4 := hE.1 _ _ _ (RfS.k20 hS)
      have hT5 := hE.1 _ _ _ (RfS.k15 hS)
      refine x_callV0 (As := [vI _, vI _, vI _, vI _]) (S := []) (tk K_X11_comesOf 64 rfl) mk_X11_393 mo_X11_keepValue (RfS.o hT3) rfl rfl (Nat.le_of_ble_eq_true rfl) hd h (fun r M3 hq => ?_)
      obtain ⟨x4, rfl, hE, h⟩ := hq
      have hT6 := RfS.ext hT3 hE
      have hT7 := hE.1 _ _ _ hT4
      have hT8 := hE.1 _ _ _ hT5
      refine x_goto (t := 122) (tk K_X11_comesOf 65 rfl) rfl ?_
      refine x_msk [true, true, true, true, true, true, true, true, true, false, false, false] ?_
      exact h

theorem b_X11_comesOf_122 {X : Cx} {d kc ns : Nat} {M : Mem} {Q : Option AV → Mem → Prop} {l1 : Int32} {l2 : Int32} {l3 : Int32} {l4 : Int32} {l5 : Int32} {l6 : Int32} {l7 : Int32} {l8 : Int32} {s0 : Int32} (hS : RfS M) (hd : 1 ≤ d)
    (h : Cl X (d - 1) 0 0 m_X11_great [vR 75, vI l4] M (fun r M1 => ∃ x1 : Int32, r = some (vI x1) ∧ Ext M M1 ∧ Cl X (d - 1) 0 0 m_X11_better [vI l6, vI s0, vI x1] M1 (fun r M2 => ∃ x2 : Int32, r = some (vI x2) ∧ Ext M1 M2 ∧ ((¬ x2 = s0 → WA X d kc ns m_X11_comesOf 161 [some (vR 75), some (vI l1), some (vI l2), some (vI l3), some (vI l4), some (vI l5), some (vI l6), some (vI l7), some (vI l8), none, some (vI s0), none] [] M2 Q) ∧ (x2 = s0 → ((l6 = (nI 1000) → WA X d kc ns m_X11_comesOf 157 [some (vR 75), some (vI l1), some (vI l2), some (vI l3), some (vI l4), some (vI l5), some (vI l6), some (vI l7), some (vI l8), none, some (vI s0), none] [] M2 Q) ∧ (¬ l6 = (nI 1000) → ((s0 = l6 → WA X d kc ns m_X11_comesOf 161 [some (vR 75), some (vI l1), some (vI l2), some (vI l3), some (vI l4), some (vI l5), some (vI l6), some (vI l7), some (vI l8), none, some (vI s0), none] [] M2 Q) ∧ (¬ s0 = l6 → WA X d kc ns m_X11_comesOf 157 [some (vR 75), some (vI l1), some (vI l2), some (vI l3), some (vI l4), some (vI l5), some (vI l6), some (vI l7), some (vI l8), none, some (vI s0), none] [] M2 Q))))))))) :
    WA X d kc ns m_X11_comesOf 122 [some (vR 75), some (vI l1), some (vI l2), some (vI l3), some (vI l4), some (vI l5), some (vI l6), some (vI l7), some (vI l8), none, none, none] [vI s0] M Q := by
  refine x_istore (L' := [some (vR _), some (vI _), some (vI _), some (vI _), some (vI _), some (vI _), some (vI _), some (vI _), some (vI _), none, some (vI _), none]) (tk K_X11_comesOf 71 rfl) rfl (Nat.le_of_ble_eq_true rfl) rfl ?_
  refine x_iload (tk K_X11_comesOf 72 rfl) rfl ?_
  refine x_iload (tk K_X11_comesOf 73 rfl) rfl ?_
  refine x_aload_n (tk K_X11_comesOf 74 rfl) rfl rfl ?_
  refine x_iload (tk K_X11_comesOf 75 rfl) rfl ?_
  refine x_callV0 (As := [vI _]) (S := [vI _, vI _]) (tk K_X11_comesOf 76 rfl) mk_X11_387 mo_X11_great (RfS.o hS) rfl rfl (Nat.le_of_ble_eq_true rfl) hd h (fun r M1 hq => ?_)
  obtain ⟨x1, rfl, hE, h⟩ := hq
  have hT0 := RfS.ext hS hE
  refine x_callS0 (As := [vI _, vI _, vI _]) (S := []) (tk K_X11_comesOf 77 rfl) mk_X11_375 mo_X11_better rfl rfl (Nat.le_of_ble_eq_true rfl) hd h (fun r M2 hq => ?_)
  obtain ⟨x2, rfl, hE, h⟩ := hq
  have hT1 := RfS.ext hT0 hE
  refine x_iload (tk K_X11_comesOf 78 rfl) rfl ?_
  refine x_icmp_ne (t := 161) (tk K_X11_comesOf 79 rfl) rfl (fun hc => ?_) (fun hc => ?_)
  · have h := h.1 hc
    exact h
  · have h := h.2 hc
    refine x_iload (tk K_X11_comesOf 80 rfl) rfl ?_
    refine x_sipush (tk K_X11_comesOf 81 rfl) sp_1000 ?_
    refine x_icmp_eq (t := 157) (tk K_X11_comesOf 82 rfl) rfl (fun hc => ?_) (fun hc => ?_)
    · have h := h.1 hc
      exact h
    · have h := h.2 hc
      refine x_iload (tk K_X11_comesOf 83 rfl) rfl ?_
      refine x_iload (tk K_X11_comesOf 84 rfl) rfl ?_
      refine x_icmp_eq (t := 161) (tk K_X11_comesOf 85 rfl) rfl (fun hc => ?_) (fun hc => ?_)
      · have h := h.1 hc
        exact h
      · have h := h.2 hc
        exact h

theorem b_X11_comesOf_157 {X : Cx} {d kc ns : Nat} {M : Mem} {Q : Option AV → Mem → Prop} {l1 : Int32} {l2 : Int32} {l3 : Int32} {l4 : Int32} {l5 : Int32} {l6 : Int32} {l7 : Int32} {l8 : Int32} {l10 : Int32} (hS : RfS M)
    (h : WA X d kc ns m_X11_comesOf 162 [some (vR 75), some (vI l1), some (vI l2), some (vI l3), some (vI l4), some (vI l5), some (vI l6), some (vI l7), some (vI l8), none, some (vI l10), none] [vI (nI 1)] M Q) :
    WA X d kc ns m_X11_comesOf 157 [some (vR 75), some (vI l1), some (vI l2), some (vI l3), some (vI l4), some (vI l5), some (vI l6), some (vI l7), some (vI l8), none, some (vI l10), none] [] M Q := by
  refine x_iconst (tk K_X11_comesOf 86 rfl) ic_1 ?_
  refine x_goto (t := 162) (tk K_X11_comesOf 87 rfl) rfl ?_
  exact h

theorem b_X11_comesOf_161 {X : Cx} {d kc ns : Nat} {M : Mem} {Q : Option AV → Mem → Prop} {l1 : Int32} {l2 : Int32} {l3 : Int32} {l4 : Int32} {l5 : Int32} {l6 : Int32} {l7 : Int32} {l8 : Int32} {l10 : Int32} (hS : RfS M)
    (h : WA X d kc ns m_X11_comesOf 162 [some (vR 75), some (vI l1), some (vI l2), some (vI l3), some (vI l4), some (vI l5), some (vI l6), some (vI l7), some (vI l8), none, some (vI l10), none] [vI (nI 0)] M Q) :
    WA X d kc ns m_X11_comesOf 161 [some (vR 75), some (vI l1), some (vI l2), some (vI l3), some (vI l4), some (vI l5), some (vI l6), some (vI l7), some (vI l8), none, some (vI l10), none] [] M Q := by
  refine x_iconst (tk K_X11_comesOf 88 rfl) ic_0 ?_
  exact h

theorem b_X11_comesOf_162 {X : Cx} {d kc ns : Nat} {M : Mem} {Q : Option AV → Mem → Prop} {l1 : Int32} {l2 : Int32} {l3 : Int32} {l4 : Int32} {l5 : Int32} {l6 : Int32} {l7 : Int32} {l8 : Int32} {l10 : Int32} {s0 : Int32} (hS : RfS M) (hd : 1 ≤ d)
    (h : ((s0 = nI 0 → Cl X (d - 1) 0 0 m_X11_great [vR 75, vI l4] M (fun r M1 => ∃ x1 : Int32, r = some (vI x1) ∧ Ext M M1 ∧ Cl X (d - 1) 0 0 m_X11_better [vI l7, vI l10, vI x1] M1 (fun r M2 => ∃ x2 : Int32, r = some (vI x2) ∧ Ext M1 M2 ∧ WA X d kc ns m_X11_comesOf 187 [some (vR 75), some (vI l1), some (vI l2), some (vI l3), some (vI l4), some (vI l5), some (vI l6), none, some (vI l8), none, some (vI l10), some (vI s0)] [vI x2] M2 Q))) ∧ (¬ s0 = nI 0 → WA X d kc ns m_X11_comesOf 187 [some (vR 75), some (vI l1), some (vI l2), some (vI l3), some (vI l4), some (vI l5), some (vI l6), none, some (vI l8), none, some (vI l10), some (vI s0)] [vI l6] M Q))) :
    WA X d kc ns m_X11_comesOf 162 [some (vR 75), some (vI l1), some (vI l2), some (vI l3), some (vI l4), some (vI l5), some (vI l6), some (vI l7), some (vI l8), none, some (vI l10), none] [vI s0] M Q := by
  refine x_istore (L' := [some (vR _), some (vI _), some (vI _), some (vI _), some (vI _), some (vI _), some (vI _), some (vI _), some (vI _), none, some (vI _), some (vI _)]) (tk K_X11_comesOf 89 rfl) rfl (Nat.le_of_ble_eq_true rfl) rfl ?_
  refine x_iload (tk K_X11_comesOf 90 rfl) rfl ?_
  refine x_if_eq (t := 174) (tk K_X11_comesOf 91 rfl) rfl (fun hc => ?_) (fun hc => ?_)
  · have h := h.1 hc
    refine x_iload (tk K_X11_comesOf 94 rfl) rfl ?_
    refine x_iload (tk K_X11_comesOf 95 rfl) rfl ?_
    refine x_aload_n (tk K_X11_comesOf 96 rfl) rfl rfl ?_
    refine x_iload (tk K_X11_comesOf 97 rfl) rfl ?_
    refine x_callV0 (As := [vI _]) (S := [vI _, vI _]) (tk K_X11_comesOf 98 rfl) mk_X11_387 mo_X11_great (RfS.o hS) rfl rfl (Nat.le_of_ble_eq_true rfl) hd h (fun r M1 hq => ?_)
    obtain ⟨x1, rfl, hE, h⟩ := hq
    have hT0 := RfS.ext hS hE
    refine x_callS0 (As := [vI _, vI _, vI _]) (S := []) (tk K_X11_comesOf 99 rfl) mk_X11_375 mo_X11_better rfl rfl (Nat.le_of_ble_eq_true rfl) hd h (fun r M2 hq => ?_)
    obtain ⟨x2, rfl, hE, h⟩ := hq
    have hT1 := RfS.ext hT0 hE
    refine x_msk [true, true, true, true, true, true, true, false, true, false, true, true] ?_
    exact h
  · have h := h.2 hc
    refine x_iload (tk K_X11_comesOf 92 rfl) rfl ?_
    refine x_goto (t := 187) (tk K_X11_comesOf 93 rfl) rfl ?_
    refine x_msk [true, true, true, true, true, true, true, false, true, false, true, true] ?_
    exact h

theorem b_X11_comesOf_187 {X : Cx} {d kc ns : Nat} {M : Mem} {Q : Option AV → Mem → Prop} {l1 : Int32} {l2 : Int32} {l3 : Int32} {l4 : Int32} {l5 : Int32} {l6 : Int32} {l8 : Int32} {l10 : Int32} {l11 : Int32} {s0 : Int32} (hS : RfS M)
    (h : ((l11 = nI 0 → WA X d kc ns m_X11_comesOf 64 [some (vR 75), some (vI l1), some (vI l2), some (vI l3), some (vI l4), some (vI l5), some (vI l6), some (vI s0), some (vI (l8 + (nI 1))), none, none, none] [] M Q) ∧ (¬ l11 = nI 0 → WA X d kc ns m_X11_comesOf 64 [some (vR 75), some (vI l1), some (vI l2), some (vI l3), some (vI l4), some (vI l5), some (vI l10), some (vI s0), some (vI (l8 + (nI 1))), none, none, none] [] M Q))) :
    WA X d kc ns m_X11_comesOf 187 [some (vR 75), some (vI l1), some (vI l2), some (vI l3), some (vI l4), some (vI l5), some (vI l6), none, some (vI l8), none, some (vI l10), some (vI l11)] [vI s0] M Q := by
  refine x_istore (L' := [some (vR _), some (vI _), some (vI _), some (vI _), some (vI _), some (vI _), some (vI _), some (vI _), some (vI _), none, some (vI _), some (vI _)]) (tk K_X11_comesOf 100 rfl) rfl (Nat.le_of_ble_eq_true rfl) rfl ?_
  refine x_iload (tk K_X11_comesOf 101 rfl) rfl ?_
  refine x_if_eq (t := 199) (tk K_X11_comesOf 102 rfl) rfl (fun hc => ?_) (fun hc => ?_)
  · have h := h.1 hc
    refine x_iload (tk K_X11_comesOf 105 rfl) rfl ?_
    refine x_istore (L' := [some (vR _), some (vI _), some (vI _), some (vI _), some (vI _), some (vI _), some (vI _), some (vI _), some (vI _), none, some (vI _), some (vI _)]) (tk K_X11_comesOf 106 rfl) rfl (Nat.le_of_ble_eq_true rfl) rfl ?_
    refine x_iincW (L' := [some (vR _), some (vI _), some (vI _), some (vI _), some (vI _), some (vI _), some (vI _), some (vI _), some (vI _), none, some (vI _), some (vI _)]) (tk K_X11_comesOf 107 rfl) rfl ic_1 rfl (Nat.le_of_ble_eq_true rfl) rfl ?_
    refine x_goto (t := 64) (tk K_X11_comesOf 108 rfl) rfl ?_
    refine x_msk [true, true, true, true, true, true, true, true, true, false, false, false] ?_
    exact h
  · have h := h.2 hc
    refine x_iload (tk K_X11_comesOf 103 rfl) rfl ?_
    refine x_goto (t := 201) (tk K_X11_comesOf 104 rfl) rfl ?_
    refine x_istore (L' := [some (vR _), some (vI _), some (vI _), some (vI _), some (vI _), some (vI _), some (vI _), some (vI _), some (vI _), none, some (vI _), some (vI _)]) (tk K_X11_comesOf 106 rfl) rfl (Nat.le_of_ble_eq_true rfl) rfl ?_
    refine x_iincW (L' := [some (vR _), some (vI _), some (vI _), some (vI _), some (vI _), some (vI _), some (vI _), some (vI _), some (vI _), none, some (vI _), some (vI _)]) (tk K_X11_comesOf 107 rfl) rfl ic_1 rfl (Nat.le_of_ble_eq_true rfl) rfl ?_
    refine x_goto (t := 64) (tk K_X11_comesOf 108 rfl) rfl ?_
    refine x_msk [true, true, true, true, true, true, true, true, true, false, false, false] ?_
    exact h

theorem e_X11_comesOf {X : Cx} {d kc ns : Nat} {M : Mem} {Q : Option AV → Mem → Prop} {a1 : Int32} {a2 : Int32} (h : WA X d kc ns m_X11_comesOf 0 [some (vR 75), some (vI a1), some (vI a2), none, none, none, none, none, none, none, none, none] [] M Q) : Cl X d kc ns m_X11_comesOf [vR 75, vI a1, vI a2] M Q := Cl.intro (k := 9) (by decide) rfl rfl h

-- TwoPencilsModel.halvesValue(III)I
theorem b_X11_halvesValue_0 {X : Cx} {d kc ns : Nat} {M : Mem} {Q : Option AV → Mem → Prop} {l1 : Int32} {l2 : Int32} {l3 : Int32} (hS : RfS M)
    (h : WA X d kc ns m_X11_halvesValue 3 [some (vR 75), some (vI l1), some (vI l2), some (vI l3), some (vI (nI 0))] [] M Q) :
    WA X d kc ns m_X11_halvesValue 0 [some (vR 75), some (vI l1), some (vI l2), some (vI l3), none] [] M Q := by
  refine x_iconst (tk K_X11_halvesValue 0 rfl) ic_0 ?_
  refine x_istore (L' := [some (vR _), some (vI _), some (vI _), some (vI _), some (vI _)]) (tk K_X11_halvesValue 1 rfl) rfl (Nat.le_of_ble_eq_true rfl) rfl ?_
  exact h

theorem b_X11_halvesValue_3 {X : Cx} {d kc ns : Nat} {M : Mem} {Q : Option AV → Mem → Prop} {l1 : Int32} {l2 : Int32} {l3 : Int32} {l4 : Int32} (hS : RfS M) (hd : 1 ≤ d)
    (h : (((nI 8) ≤ l4 → ∀ M1 : Mem, M1 = sI M 75 35 (nI 1) → ∀ M2 : Mem, M2 = sI M1 75 37 l3 → ∀ M3 : Mem, M3 = sI M2 75 42 (nI 0) → Cl X (d - 1) 0 0 m_X11_seekHalves [vR 75, vI (nI 0), vI l1, vI ((nI 2) * l2), vI (nI 0), vI (nI 0)] M3 (fun r M4 => r = none ∧ Ext M3 M4 ∧ (((mI M4 75 42) = nI 0 → Q (some (vI (nI 0))) M4) ∧ (¬ (mI M4 75 42) = nI 0 → Q (some (vI (mI M4 75 38))) M4)))) ∧ (¬ (nI 8) ≤ l4 → vp_in l4 8 ∧ ∀ M5 : Mem, M5 = sI M 93 (ix l4) (nI 0) → WA X d kc ns m_X11_halvesValue 3 [some (vR 75), some (vI l1), some (vI l2), some (vI l3), some (vI (l4 + (nI 1)))] [] M5 Q))) :
    WA X d kc ns m_X11_halvesValue 3 [some (vR 75), some (vI l1), some (vI l2), some (vI l3), some (vI l4)] [] M Q := by
  refine x_iload (tk K_X11_halvesValue 2 rfl) rfl ?_
  refine x_bipush (tk K_X11_halvesValue 3 rfl) bp_8 ?_
  refine x_icmp_ge (t := 24) (tk K_X11_halvesValue 4 rfl) rfl (fun hc => ?_) (fun hc => ?_)
  · have h := h.1 hc
    refine x_aload_n (tk K_X11_halvesValue 12 rfl) rfl rfl ?_
    refine x_iconst (tk K_X11_halvesValue 13 rfl) ic_1 ?_
    have h := h _ rfl
    refine x_putI (tk K_X11_halvesValue 14 rfl) f_X11_346 rfl (Or.inl rfl) (RfS.o hS) ?_
    refine x_aload_n (tk K_X11_halvesValue 15 rfl) rfl rfl ?_
    refine x_iload_n (tk K_X11_halvesValue 16 rfl) rfl rfl ?_
    have h := h _ rfl
    refine x_putI (tk K_X11_halvesValue 17 rfl) f_X11_360 rfl (Or.inl rfl) (RfS.o hS) ?_
    refine x_aload_n (tk K_X11_halvesValue 18 rfl) rfl rfl ?_
    refine x_iconst (tk K_X11_halvesValue 19 rfl) ic_0 ?_
    have h := h _ rfl
    refine x_putZ (tk K_X11_halvesValue 20 rfl) f_X11_349 rfl (Or.inl rfl) (RfS.o hS) (Or.inl rfl) ?_
    refine x_aload_n (tk K_X11_halvesValue 21 rfl) rfl rfl ?_
    refine x_iconst (tk K_X11_halvesValue 22 rfl) ic_0 ?_
    refine x_iload_n (tk K_X11_halvesValue 23 rfl) rfl rfl ?_
    refine x_iconst (tk K_X11_halvesValue 24 rfl) ic_2 ?_
    refine x_iload_n (tk K_X11_halvesValue 25 rfl) rfl rfl ?_
    refine x_imul (tk K_X11_halvesValue 26 rfl) ?_
    refine x_iconst (tk K_X11_halvesValue 27 rfl) ic_0 ?_
    refine x_iconst (tk K_X11_halvesValue 28 rfl) ic_0 ?_
    refine x_callV0 (As := [vI _, vI _, vI _, vI _, vI _]) (S := []) (tk K_X11_halvesValue 29 rfl) mk_X11_356 mo_X11_seekHalves (RfS.o hS) rfl rfl (Nat.le_of_ble_eq_true rfl) hd h (fun r M4 hq => ?_)
    obtain ⟨rfl, hE, h⟩ := hq
    have hT0 := RfS.ext hS hE
    refine x_aload_n (tk K_X11_halvesValue 30 rfl) rfl rfl ?_
    refine x_getI (tk K_X11_halvesValue 31 rfl) f_X11_349 rfl (RfS.o hT0) ?_
    refine x_if_eq (t := 64) (tk K_X11_halvesValue 32 rfl) rfl (fun hc => ?_) (fun hc => ?_)
    · have h := h.1 hc
      refine x_iconst (tk K_X11_halvesValue 36 rfl) ic_0 ?_
      exact x_ireturn (tk K_X11_halvesValue 37 rfl) rfl rfl h
    · have h := h.2 hc
      refine x_aload_n (tk K_X11_halvesValue 33 rfl) rfl rfl ?_
      refine x_getI (tk K_X11_halvesValue 34 rfl) f_X11_366 rfl (RfS.o hT0) ?_
      refine x_goto (t := 65) (tk K_X11_halvesValue 35 rfl) rfl ?_
      exact x_ireturn (tk K_X11_halvesValue 37 rfl) rfl rfl h
  · have h := h.2 hc
    refine x_aload_n (tk K_X11_halvesValue 5 rfl) rfl rfl ?_
    refine x_getRc (tk K_X11_halvesValue 6 rfl) f_X11_62 rfl (RfS.o hS) (RfS.r34 hS) ?_
    refine x_iload (tk K_X11_halvesValue 7 rfl) rfl ?_
    refine x_iconst (tk K_X11_halvesValue 8 rfl) ic_0 ?_
    have hi := h.1
    have h := h.2
    have h := h _ rfl
    refine x_iast (tk K_X11_halvesValue 9 rfl) (RfS.k34 hS) hi ?_
    refine x_iincW (L' := [some (vR _), some (vI _), some (vI _), some (vI _), some (vI _)]) (tk K_X11_halvesValue 10 rfl) rfl ic_1 rfl (Nat.le_of_ble_eq_true rfl) rfl ?_
    refine x_goto (t := 3) (tk K_X11_halvesValue 11 rfl) rfl ?_
    exact h

theorem e_X11_halvesValue {X : Cx} {d kc ns : Nat} {M : Mem} {Q : Option AV → Mem → Prop} {a1 : Int32} {a2 : Int32} {a3 : Int32} (h : WA X d kc ns m_X11_halvesValue 0 [some (vR 75), some (vI a1), some (vI a2), some (vI a3), none] [] M Q) : Cl X d kc ns m_X11_halvesValue [vR 75, vI a1, vI a2, vI a3] M Q := Cl.intro (k := 1) (by decide) rfl rfl h

-- TwoPencilsModel.keptValue(IIII)I
theorem b_X11_keptValue_0 {X : Cx} {d kc ns : Nat} {M : Mem} {Q : Option AV → Mem → Prop} {l1 : Int32} {l2 : Int32} {l3 : Int32} {l4 : Int32} (hS : RfS M) (hd : 1 ≤ d)
    (h : Cl X (d - 1) 0 0 m_X11_seatOf [vR 75, vI l1, vI l2, vI l4] M (fun r M1 => ∃ x1 : Int32, r = some (vI x1) ∧ Ext M M1 ∧ Cl X (d - 1) 0 0 m_X11_worth [vR 75, vI x1] M1 (fun r M2 => ∃ x2 : Int32, r = some (vI x2) ∧ Ext M1 M2 ∧ Cl X (d - 1) 0 0 m_X11_comes [vR 75, vI (l2 &&& (x1 ^^^ (-1))), vI (l3 - (nI 1))] M2 (fun r M3 => ∃ x3 : Int32, r = some (vI x3) ∧ Ext M2 M3 ∧ Q (some (vI (x2 + x3))) M3)))) :
    WA X d kc ns m_X11_keptValue 0 [some (vR 75), some (vI l1), some (vI l2), some (vI l3), some (vI l4), none] [] M Q := by
  refine x_aload_n (tk K_X11_keptValue 0 rfl) rfl rfl ?_
  refine x_iload_n (tk K_X11_keptValue 1 rfl) rfl rfl ?_
  refine x_iload_n (tk K_X11_keptValue 2 rfl) rfl rfl ?_
  refine x_iload (tk K_X11_keptValue 3 rfl) rfl ?_
  refine x_callV0 (As := [vI _, vI _, vI _]) (S := []) (tk K_X11_keptValue 4 rfl) mk_X11_199 mo_X11_seatOf (RfS.o hS) rfl rfl (Nat.le_of_ble_eq_true rfl) hd h (fun r M1 hq => ?_)
  obtain ⟨x1, rfl, hE, h⟩ := hq
  have hT0 := RfS.ext hS hE
  refine x_istore (L' := [some (vR _), some (vI _), some (vI _), some (vI _), some (vI _), some (vI _)]) (tk K_X11_keptValue 5 rfl) rfl (Nat.le_of_ble_eq_true rfl) rfl ?_
  refine x_aload_n (tk K_X11_keptValue 6 rfl) rfl rfl ?_
  refine x_iload (tk K_X11_keptValue 7 rfl) rfl ?_
  refine x_callV0 (As := [vI _]) (S := []) (tk K_X11_keptValue 8 rfl) mk_X11_372 mo_X11_worth (RfS.o hT0) rfl rfl (Nat.le_of_ble_eq_true rfl) hd h (fun r M2 hq => ?_)
  obtain ⟨x2, rfl, hE, h⟩ := hq
  have hT1 := RfS.ext hT0 hE
  refine x_aload_n (tk K_X11_keptValue 9 rfl) rfl rfl ?_
  refine x_iload_n (tk K_X11_keptValue 10 rfl) rfl rfl ?_
  refine x_iload (tk K_X11_keptValue 11 rfl) rfl ?_
  refine x_iconst (tk K_X11_keptValue 12 rfl) ic_m1 ?_
  refine x_ixor (tk K_X11_keptValue 13 rfl) ?_
  refine x_iand (tk K_X11_keptValue 14 rfl) ?_
  refine x_iload_n (tk K_X11_keptValue 15 rfl) rfl rfl ?_
  refine x_iconst (tk K_X11_keptValue 16 rfl) ic_1 ?_
  refine x_isub (tk K_X11_keptValue 17 rfl) ?_
  refine x_callV0 (As := [vI _, vI _]) (S := [vI _]) (tk K_X11_keptValue 18 rfl) mk_X11_399 mo_X11_comes (RfS.o hT1) rfl rfl (Nat.le_of_ble_eq_true rfl) hd h (fun r M3 hq => ?_)
  obtain ⟨x3, rfl, hE, h⟩ := hq
  have hT2 := RfS.ext hT1 hE
  refine x_iadd (tk K_X11_keptValue 19 rfl) ?_
  exact x_ireturn (tk K_X11_keptValue 20 rfl) rfl rfl h

theorem e_X11_keptValue {X : Cx} {d kc ns : Nat} {M : Mem} {Q : Option AV → Mem → Prop} {a1 : Int32} {a2 : Int32} {a3 : Int32} {a4 : Int32} (h : WA X d kc ns m_X11_keptValue 0 [some (vR 75), some (vI a1), some (vI a2), some (vI a3), some (vI a4), none] [] M Q) : Cl X d kc ns m_X11_keptValue [vR 75, vI a1, vI a2, vI a3, vI a4] M Q := Cl.intro (k := 1) (by decide) rfl rfl h

-- TwoPencilsModel.keepValue(IIII)I
theorem b_X11_keepValue_0 {X : Cx} {d kc ns : Nat} {M : Mem} {Q : Option AV → Mem → Prop} {l1 : Int32} {l2 : Int32} {l3 : Int32} {l4 : Int32} (hS : RfS M)
    (h : WA X d kc ns m_X11_keepValue 8 [some (vR 75), some (vI l1), some (vI l2), some (vI l3), some (vI l4), some (vI (nI 1000)), some (vI (nI 0))] [] M Q) :
    WA X d kc ns m_X11_keepValue 0 [some (vR 75), some (vI l1), some (vI l2), some (vI l3), some (vI l4), none, none] [] M Q := by
  refine x_sipush (tk K_X11_keepValue 0 rfl) sp_1000 ?_
  refine x_istore (L' := [some (vR _), some (vI _), some (vI _), some (vI _), some (vI _), some (vI _), none]) (tk K_X11_keepValue 1 rfl) rfl (Nat.le_of_ble_eq_true rfl) rfl ?_
  refine x_iconst (tk K_X11_keepValue 2 rfl) ic_0 ?_
  refine x_istore (L' := [some (vR _), some (vI _), some (vI _), some (vI _), some (vI _), some (vI _), some (vI _)]) (tk K_X11_keepValue 3 rfl) rfl (Nat.le_of_ble_eq_true rfl) rfl ?_
  exact h

theorem b_X11_keepValue_8 {X : Cx} {d kc ns : Nat} {M : Mem} {Q : Option AV → Mem → Prop} {l1 : Int32} {l2 : Int32} {l3 : Int32} {l4 : Int32} {l5 : Int32} {l6 : Int32} (hS : RfS M) (hd : 1 ≤ d)
    (h : ((l3 ≤ l6 → Q (some (vI l5)) M) ∧ (¬ l3 ≤ l6 → Cl X (d - 1) 0 0 m_X11_keptValue [vR 75, vI l1, vI l2, vI l3, vI l6] M (fun r M1 => ∃ x1 : Int32, r = some (vI x1) ∧ Ext M M1 ∧ Cl X (d - 1) 0 0 m_X11_better [vI l5, vI x1, vI l4] M1 (fun r M2 => ∃ x2 : Int32, r = some (vI x2) ∧ Ext M1 M2 ∧ WA X d kc ns m_X11_keepValue 8 [some (vR 75), some (vI l1), some (vI l2), some (vI l3), some (vI l4), some (vI x2), some (vI (l6 + (nI 1)))] [] M2 Q))))) :
    WA X d kc ns m_X11_keepValue 8 [some (vR 75), some (vI l1), some (vI l2), some (vI l3), some (vI l4), some (vI l5), some (vI l6)] [] M Q := by
  refine x_iload (tk K_X11_keepValue 4 rfl) rfl ?_
  refine x_iload_n (tk K_X11_keepValue 5 rfl) rfl rfl ?_
  refine x_icmp_ge (t := 38) (tk K_X11_keepValue 6 rfl) rfl (fun hc => ?_) (fun hc => ?_)
  · have h := h.1 hc
    refine x_iload (tk K_X11_keepValue 19 rfl) rfl ?_
    exact x_ireturn (tk K_X11_keepValue 20 rfl) rfl rfl h
  · have h := h.2 hc
    refine x_iload (tk K_X11_keepValue 7 rfl) rfl ?_
    refine x_aload_n (tk K_X11_keepValue 8 rfl) rfl rfl ?_
    refine x_iload_n (tk K_X11_keepValue 9 rfl) rfl rfl ?_
    refine x_iload_n (tk K_X11_keepValue 10 rfl) rfl rfl ?_
    refine x_iload_n (tk K_X11_keepValue 11 rfl) rfl rfl ?_
    refine x_iload (tk K_X11_keepValue 12 rfl) rfl ?_
    refine x_callV0 (As := [vI _, vI _, vI _, vI _]) (S := [vI _]) (tk K_X11_keepValue 13 rfl) mk_X11_402 mo_X11_keptValue (RfS.o hS) rfl rfl (Nat.le_of_ble_eq_true rfl) hd h (fun r M1 hq => ?_)
    obtain ⟨x1, rfl, hE, h⟩ := hq
    have hT0 := RfS.ext hS hE
    refine x_iload (tk K_X11_keepValue 14 rfl) rfl ?_
    refine x_callS0 (As := [vI _, vI _, vI _]) (S := []) (tk K_X11_keepValue 15 rfl) mk_X11_375 mo_X11_better rfl rfl (Nat.le_of_ble_eq_true rfl) hd h (fun r M2 hq => ?_)
    obtain ⟨x2, rfl, hE, h⟩ := hq
    have hT1 := RfS.ext hT0 hE
    refine x_istore (L' := [some (vR _), some (vI _), some (vI _), some (vI _), some (vI _), some (vI _), some (vI _)]) (tk K_X11_keepValue 16 rfl) rfl (Nat.le_of_ble_eq_true rfl) rfl ?_
    refine x_iincW (L' := [some (vR _), some (vI _), some (vI _), some (vI _), some (vI _), some (vI _), some (vI _)]) (tk K_X11_keepValue 17 rfl) rfl ic_1 rfl (Nat.le_of_ble_eq_true rfl) rfl ?_
    refine x_goto (t := 8) (tk K_X11_keepValue 18 rfl) rfl ?_
    exact h

theorem e_X11_keepValue {X : Cx} {d kc ns : Nat} {M : Mem} {Q : Option AV → Mem → Prop} {a1 : Int32} {a2 : Int32} {a3 : Int32} {a4 : Int32} (h : WA X d kc ns m_X11_keepValue 0 [some (vR 75), some (vI a1), some (vI a2), some (vI a3), some (vI a4), none, none] [] M Q) : Cl X d kc ns m_X11_keepValue [vR 75, vI a1, vI a2, vI a3, vI a4] M Q := Cl.intro (k := 2) (by decide) rfl rfl h

-- TwoPencilsModel.keptWorth()I
theorem b_X11_keptWorth_0 {X : Cx} {d kc ns : Nat} {M : Mem} {Q : Option AV → Mem → Prop} (hS : RfS M)
    (h : WA X d kc ns m_X11_keptWorth 4 [some (vR 75), some (vI (nI 0)), some (vI (nI 0))] [] M Q) :
    WA X d kc ns m_X11_keptWorth 0 [some (vR 75), none, none] [] M Q := by
  refine x_iconst (tk K_X11_keptWorth 0 rfl) ic_0 ?_
  refine x_istore_n (L' := [some (vR _), some (vI _), none]) (tk K_X11_keptWorth 1 rfl) rfl rfl (Nat.le_of_ble_eq_true rfl) rfl ?_
  refine x_iconst (tk K_X11_keptWorth 2 rfl) ic_0 ?_
  refine x_istore_n (L' := [some (vR _), some (vI _), some (vI _)]) (tk K_X11_keptWorth 3 rfl) rfl rfl (Nat.le_of_ble_eq_true rfl) rfl ?_
  exact h

theorem b_X11_keptWorth_4 {X : Cx} {d kc ns : Nat} {M : Mem} {Q : Option AV → Mem → Prop} {l1 : Int32} {l2 : Int32} (hS : RfS M) (hd : 1 ≤ d)
    (h : (((mI M 75 32) ≤ l2 → Q (some (vI l1)) M) ∧ (¬ (mI M 75 32) ≤ l2 → vp_in l2 4 ∧ Cl X (d - 1) 0 0 m_X11_worth [vR 75, vI (mI M 92 (ix l2))] M (fun r M1 => ∃ x1 : Int32, r = some (vI x1) ∧ Ext M M1 ∧ ∀ x2 : Int32, x2 = (l1 + x1) → WA X d kc ns m_X11_keptWorth 4 [some (vR 75), some (vI x2), some (vI (l2 + (nI 1)))] [] M1 Q)))) :
    WA X d kc ns m_X11_keptWorth 4 [some (vR 75), some (vI l1), some (vI l2)] [] M Q := by
  refine x_iload_n (tk K_X11_keptWorth 4 rfl) rfl rfl ?_
  refine x_aload_n (tk K_X11_keptWorth 5 rfl) rfl rfl ?_
  refine x_getI (tk K_X11_keptWorth 6 rfl) f_X11_288 rfl (RfS.o hS) ?_
  refine x_icmp_ge (t := 31) (tk K_X11_keptWorth 7 rfl) rfl (fun hc => ?_) (fun hc => ?_)
  · have h := h.1 hc
    refine x_iload_n (tk K_X11_keptWorth 19 rfl) rfl rfl ?_
    exact x_ireturn (tk K_X11_keptWorth 20 rfl) rfl rfl h
  · have h := h.2 hc
    refine x_iload_n (tk K_X11_keptWorth 8 rfl) rfl rfl ?_
    refine x_aload_n (tk K_X11_keptWorth 9 rfl) rfl rfl ?_
    refine x_aload_n (tk K_X11_keptWorth 10 rfl) rfl rfl ?_
    refine x_getRc (tk K_X11_keptWorth 11 rfl) f_X11_59 rfl (RfS.o hS) (RfS.r33 hS) ?_
    refine x_iload_n (tk K_X11_keptWorth 12 rfl) rfl rfl ?_
    have hi := h.1
    have h := h.2
    refine x_iald (tk K_X11_keptWorth 13 rfl) (RfS.k33 hS) hi ?_
    refine x_callV0 (As := [vI _]) (S := [vI _]) (tk K_X11_keptWorth 14 rfl) mk_X11_372 mo_X11_worth (RfS.o hS) rfl rfl (Nat.le_of_ble_eq_true rfl) hd h (fun r M1 hq => ?_)
    obtain ⟨x1, rfl, hE, h⟩ := hq
    have hT0 := RfS.ext hS hE
    have hT1 := hE.1 _ _ _ (RfS.k33 hS)
    refine x_iadd (tk K_X11_keptWorth 15 rfl) ?_
    have h := h _ rfl
    refine x_istore_n (L' := [some (vR _), some (vI _), some (vI _)]) (tk K_X11_keptWorth 16 rfl) rfl rfl (Nat.le_of_ble_eq_true rfl) rfl ?_
    refine x_iincW (L' := [some (vR _), some (vI _), some (vI _)]) (tk K_X11_keptWorth 17 rfl) rfl ic_1 rfl (Nat.le_of_ble_eq_true rfl) rfl ?_
    refine x_goto (t := 4) (tk K_X11_keptWorth 18 rfl) rfl ?_
    exact h

theorem e_X11_keptWorth {X : Cx} {d kc ns : Nat} {M : Mem} {Q : Option AV → Mem → Prop} (h : WA X d kc ns m_X11_keptWorth 0 [some (vR 75), none, none] [] M Q) : Cl X d kc ns m_X11_keptWorth [vR 75] M Q := Cl.intro (k := 2) (by decide) rfl rfl h

-- TwoPencilsModel.mover()I
theorem b_X11_mover_0 {X : Cx} {d kc ns : Nat} {M : Mem} {Q : Option AV → Mem → Prop} (hS : RfS M) (hd : 1 ≤ d)
    (h : (((mI M 75 29) = (nI 1) → WA X d kc ns m_X11_mover 25 [some (vR 75)] [] M Q) ∧ (¬ (mI M 75 29) = (nI 1) → (((mI M 75 29) = (nI 4) → WA X d kc ns m_X11_mover 25 [some (vR 75)] [] M Q) ∧ (¬ (mI M 75 29) = (nI 4) → ((¬ (mI M 75 29) = (nI 7) → Cl X (d - 1) 0 0 m_X11_firstNow [vR 75] M (fun r M1 => ∃ x1 : Int32, r = some (vI x1) ∧ Ext M M1 ∧ Q (some (vI x1)) M1)) ∧ ((mI M 75 29) = (nI 7) → WA X d kc ns m_X11_mover 25 [some (vR 75)] [] M Q))))))) :
    WA X d kc ns m_X11_mover 0 [some (vR 75)] [] M Q := by
  refine x_aload_n (tk K_X11_mover 0 rfl) rfl rfl ?_
  refine x_getI (tk K_X11_mover 1 rfl) f_X11_300 rfl (RfS.o hS) ?_
  refine x_iconst (tk K_X11_mover 2 rfl) ic_1 ?_
  refine x_icmp_eq (t := 25) (tk K_X11_mover 3 rfl) rfl (fun hc => ?_) (fun hc => ?_)
  · have h := h.1 hc
    exact h
  · have h := h.2 hc
    refine x_aload_n (tk K_X11_mover 4 rfl) rfl rfl ?_
    refine x_getI (tk K_X11_mover 5 rfl) f_X11_300 rfl (RfS.o hS) ?_
    refine x_iconst (tk K_X11_mover 6 rfl) ic_4 ?_
    refine x_icmp_eq (t := 25) (tk K_X11_mover 7 rfl) rfl (fun hc => ?_) (fun hc => ?_)
    · have h := h.1 hc
      exact h
    · have h := h.2 hc
      refine x_aload_n (tk K_X11_mover 8 rfl) rfl rfl ?_
      refine x_getI (tk K_X11_mover 9 rfl) f_X11_300 rfl (RfS.o hS) ?_
      refine x_bipush (tk K_X11_mover 10 rfl) bp_7 ?_
      refine x_icmp_ne (t := 34) (tk K_X11_mover 11 rfl) rfl (fun hc => ?_) (fun hc => ?_)
      · have h := h.1 hc
        refine x_aload_n (tk K_X11_mover 17 rfl) rfl rfl ?_
        refine x_callV0 (As := []) (S := []) (tk K_X11_mover 18 rfl) mk_X11_405 mo_X11_firstNow (RfS.o hS) rfl rfl (Nat.le_of_ble_eq_true rfl) hd h (fun r M1 hq => ?_)
        obtain ⟨x1, rfl, hE, h⟩ := hq
        have hT0 := RfS.ext hS hE
        exact x_ireturn (tk K_X11_mover 19 rfl) rfl rfl h
      · have h := h.2 hc
        exact h

theorem b_X11_mover_25 {X : Cx} {d kc ns : Nat} {M : Mem} {Q : Option AV → Mem → Prop} (hS : RfS M) (hd : 1 ≤ d)
    (h : Cl X (d - 1) 0 0 m_X11_firstNow [vR 75] M (fun r M1 => ∃ x1 : Int32, r = some (vI x1) ∧ Ext M M1 ∧ Q (some (vI ((nI 1) - x1))) M1)) :
    WA X d kc ns m_X11_mover 25 [some (vR 75)] [] M Q := by
  refine x_iconst (tk K_X11_mover 12 rfl) ic_1 ?_
  refine x_aload_n (tk K_X11_mover 13 rfl) rfl rfl ?_
  refine x_callV0 (As := []) (S := [vI _]) (tk K_X11_mover 14 rfl) mk_X11_405 mo_X11_firstNow (RfS.o hS) rfl rfl (Nat.le_of_ble_eq_true rfl) hd h (fun r M1 hq => ?_)
  obtain ⟨x1, rfl, hE, h⟩ := hq
  have hT0 := RfS.ext hS hE
  refine x_isub (tk K_X11_mover 15 rfl) ?_
  refine x_goto (t := 38) (tk K_X11_mover 16 rfl) rfl ?_
  exact x_ireturn (tk K_X11_mover 19 rfl) rfl rfl h

theorem e_X11_mover {X : Cx} {d kc ns : Nat} {M : Mem} {Q : Option AV → Mem → Prop} (h : WA X d kc ns m_X11_mover 0 [some (vR 75)] [] M Q) : Cl X d kc ns m_X11_mover [vR 75] M Q := Cl.intro (k := 0) (by decide) rfl rfl h

-- TwoPencilsModel.opposite(III)I
theorem b_X11_opposite_0 {X : Cx} {d kc ns : Nat} {M : Mem} {Q : Option AV → Mem → Prop} {l0 : Int32} {l1 : Int32} {l2 : Int32} (hd : 1 ≤ d)
    (h : ((¬ l2 = (nI 1) → Q (some (vI (maxI l0 l1))) M) ∧ (l2 = (nI 1) → Q (some (vI (minI l0 l1))) M))) :
    WA X d kc ns m_X11_opposite 0 [some (vI l0), some (vI l1), some (vI l2)] [] M Q := by
  refine x_iload_n (tk K_X11_opposite 0 rfl) rfl rfl ?_
  refine x_iconst (tk K_X11_opposite 1 rfl) ic_1 ?_
  refine x_icmp_ne (t := 13) (tk K_X11_opposite 2 rfl) rfl (fun hc => ?_) (fun hc => ?_)
  · have h := h.1 hc
    refine x_iload_n (tk K_X11_opposite 7 rfl) rfl rfl ?_
    refine x_iload_n (tk K_X11_opposite 8 rfl) rfl rfl ?_
    refine x_mmax (tk K_X11_opposite 9 rfl) mx_X11_181 mx_max_st mx_max_co hd (Nat.le_of_ble_eq_true rfl) ?_
    exact x_ireturn (tk K_X11_opposite 10 rfl) rfl rfl h
  · have h := h.2 hc
    refine x_iload_n (tk K_X11_opposite 3 rfl) rfl rfl ?_
    refine x_iload_n (tk K_X11_opposite 4 rfl) rfl rfl ?_
    refine x_mmin (tk K_X11_opposite 5 rfl) mx_X11_139 mx_min_st mx_min_co hd (Nat.le_of_ble_eq_true rfl) ?_
    refine x_goto (t := 18) (tk K_X11_opposite 6 rfl) rfl ?_
    exact x_ireturn (tk K_X11_opposite 10 rfl) rfl rfl h

theorem e_X11_opposite {X : Cx} {d kc ns : Nat} {M : Mem} {Q : Option AV → Mem → Prop} {a0 : Int32} {a1 : Int32} {a2 : Int32} (h : WA X d kc ns m_X11_opposite 0 [some (vI a0), some (vI a1), some (vI a2)] [] M Q) : Cl X d kc ns m_X11_opposite [vI a0, vI a1, vI a2] M Q := Cl.intro (k := 0) (by decide) rfl rfl h

-- TwoPencilsModel.seekBest()I
theorem b_X11_seekBest_0 {X : Cx} {d kc ns : Nat} {M : Mem} {Q : Option AV → Mem → Prop} (hS : RfS M) (hd : 1 ≤ d)
    (h : Cl X (d - 1) 0 0 m_X11_mover [vR 75] M (fun r M1 => ∃ x1 : Int32, r = some (vI x1) ∧ Ext M M1 ∧ Cl X (d - 1) 0 0 m_X11_great [vR 75, vI x1] M1 (fun r M2 => ∃ x2 : Int32, r = some (vI x2) ∧ Ext M1 M2 ∧ ∀ M3 : Mem, M3 = sI M2 75 40 (nI 1000) → ∀ M4 : Mem, M4 = sI M3 75 41 (-1) → ∀ x3 : Int32, x3 = (mI M4 75 29) → (((x3.toInt < 1 ∨ 7 < x3.toInt) → WA X d kc ns m_X11_seekBest 208 [some (vR 75), some (vI x2), none] [] M4 Q) ∧ (x3.toInt = 1 → WA X d kc ns m_X11_seekBest 70 [some (vR 75), some (vI x2), some (vI (nI 0))] [] M4 Q) ∧ (x3.toInt = 2 → WA X d kc ns m_X11_seekBest 208 [some (vR 75), some (vI x2), none] [] M4 Q) ∧ (x3.toInt = 3 → Cl X (d - 1) 0 0 m_X11_halvesValue [vR 75, vI (mI M4 75 26), vI (mI M4 75 27), vI x2] M4 (fun r M5 => ∃ x4 : Int32, r = some (vI x4) ∧ Ext M4 M5 ∧ ∀ M6 : Mem, M6 = sI M5 75 40 x4 → (((mI M6 75 42) = nI 0 → WA X d kc ns m_X11_seekBest 145 [some (vR 75), none, none] [vI (-1), vR 75] M6 Q) ∧ (¬ (mI M6 75 42) = nI 0 → WA X d kc ns m_X11_seekBest 145 [some (vR 75), none, none] [vI (mI M6 75 39), vR 75] M6 Q)))) ∧ (x3.toInt = 4 → WA X d kc ns m_X11_seekBest 208 [some (vR 75), some (vI x2), none] [] M4 Q) ∧ (x3.toInt = 5 → Cl X (d - 1) 0 0 m_X11_seekPair [vR 75, vI x2] M4 (fun r M7 => ∃ x5 : Int32, r = some (vI x5) ∧ Ext M4 M7 ∧ Q (some (vI x5)) M7)) ∧ (x3.toInt = 6 → WA X d kc ns m_X11_seekBest 208 [some (vR 75), some (vI x2), none] [] M4 Q) ∧ (x3.toInt = 7 → Cl X (d - 1) 0 0 m_X11_cutWorth [vR 75, vI (mI M4 75 30), vI (mI M4 75 26), vI (mI M4 75 27)] M4 (fun r M8 => ∃ x6 : Int32, r = some (vI x6) ∧ Ext M4 M8 ∧ Cl X (d - 1) 0 0 m_X11_offer [vR 75, vI (nI 0), vI x6, vI x2] M8 (fun r M9 => r = none ∧ Ext M8 M9 ∧ Cl X (d - 1) 0 0 m_X11_cutWorth [vR 75, vI (mI M9 75 31), vI (mI M9 75 26), vI (mI M9 75 27)] M9 (fun r M10 => ∃ x7 : Int32, r = some (vI x7) ∧ Ext M9 M10 ∧ Cl X (d - 1) 0 0 m_X11_offer [vR 75, vI (nI 1), vI x7, vI x2] M10 (fun r M11 => r = none ∧ Ext M10 M11 ∧ Q (some (vI (mI M11 75 41))) M11))))))))) :
    WA X d kc ns m_X11_seekBest 0 [some (vR 75), none, none] [] M Q := by
  refine x_aload_n (tk K_X11_seekBest 0 rfl) rfl rfl ?_
  refine x_aload_n (tk K_X11_seekBest 1 rfl) rfl rfl ?_
  refine x_callV0 (As := []) (S := [vR _]) (tk K_X11_seekBest 2 rfl) mk_X11_408 mo_X11_mover (RfS.o hS) rfl rfl (Nat.le_of_ble_eq_true rfl) hd h (fun r M1 hq => ?_)
  obtain ⟨x1, rfl, hE, h⟩ := hq
  have hT0 := RfS.ext hS hE
  refine x_callV0 (As := [vI _]) (S := []) (tk K_X11_seekBest 3 rfl) mk_X11_387 mo_X11_great (RfS.o hT0) rfl rfl (Nat.le_of_ble_eq_true rfl) hd h (fun r M2 hq => ?_)
  obtain ⟨x2, rfl, hE, h⟩ := hq
  have hT1 := RfS.ext hT0 hE
  refine x_istore_n (L' := [some (vR _), some (vI _), none]) (tk K_X11_seekBest 4 rfl) rfl rfl (Nat.le_of_ble_eq_true rfl) rfl ?_
  refine x_aload_n (tk K_X11_seekBest 5 rfl) rfl rfl ?_
  refine x_sipush (tk K_X11_seekBest 6 rfl) sp_1000 ?_
  have h := h _ rfl
  refine x_putI (tk K_X11_seekBest 7 rfl) f_X11_411 rfl (Or.inl rfl) (RfS.o hT1) ?_
  refine x_aload_n (tk K_X11_seekBest 8 rfl) rfl rfl ?_
  refine x_iconst (tk K_X11_seekBest 9 rfl) ic_m1 ?_
  have h := h _ rfl
  refine x_putI (tk K_X11_seekBest 10 rfl) f_X11_414 rfl (Or.inl rfl) (RfS.o hT1) ?_
  refine x_aload_n (tk K_X11_seekBest 11 rfl) rfl rfl ?_
  refine x_getI (tk K_X11_seekBest 12 rfl) f_X11_300 rfl (RfS.o hT1) ?_
  have h := h _ rfl
  refine x_table (td := 208) (tk K_X11_seekBest 13 rfl) rfl (fun hc => ?_) (fun k hk hk2 => ?_)
  · have h := h.1 hc
    exact h
  · rcases (show k = 0 ∨ k = 1 ∨ k = 2 ∨ k = 3 ∨ k = 4 ∨ k = 5 ∨ k = 6 by omega) with rfl | rfl | rfl | rfl | rfl | rfl | rfl
    · refine ⟨43, 68, rfl, rfl, ?_⟩
      have h := h.2.1 (by omega)
      refine x_iconst (tk K_X11_seekBest 14 rfl) ic_0 ?_
      refine x_istore_n (L' := [some (vR _), some (vI _), some (vI _)]) (tk K_X11_seekBest 15 rfl) rfl rfl (Nat.le_of_ble_eq_true rfl) rfl ?_
      exact h
    · refine ⟨183, 208, rfl, rfl, ?_⟩
      have h := h.2.2.1 (by omega)
      exact h
    · refine ⟨87, 112, rfl, rfl, ?_⟩
      have h := h.2.2.2.1 (by omega)
      refine x_aload_n (tk K_X11_seekBest 38 rfl) rfl rfl ?_
      refine x_aload_n (tk K_X11_seekBest 39 rfl) rfl rfl ?_
      refine x_aload_n (tk K_X11_seekBest 40 rfl) rfl rfl ?_
      refine x_getI (tk K_X11_seekBest 41 rfl) f_X11_282 rfl (RfS.o hT1) ?_
      refine x_aload_n (tk K_X11_seekBest 42 rfl) rfl rfl ?_
      refine x_getI (tk K_X11_seekBest 43 rfl) f_X11_285 rfl (RfS.o hT1) ?_
      refine x_iload_n (tk K_X11_seekBest 44 rfl) rfl rfl ?_
      refine x_callV0 (As := [vI _, vI _, vI _]) (S := [vR _]) (tk K_X11_seekBest 45 rfl) mk_X11_390 mo_X11_halvesValue (RfS.o hT1) rfl rfl (Nat.le_of_ble_eq_true rfl) hd h (fun r M5 hq => ?_)
      obtain ⟨x4, rfl, hE, h⟩ := hq
      have hT2 := RfS.ext hT1 hE
      have h := h _ rfl
      refine x_putI (tk K_X11_seekBest 46 rfl) f_X11_411 rfl (Or.inl rfl) (RfS.o hT2) ?_
      refine x_aload_n (tk K_X11_seekBest 47 rfl) rfl rfl ?_
      refine x_aload_n (tk K_X11_seekBest 48 rfl) rfl rfl ?_
      refine x_getI (tk K_X11_seekBest 49 rfl) f_X11_349 rfl (RfS.o hT2) ?_
      refine x_if_eq (t := 144) (tk K_X11_seekBest 50 rfl) rfl (fun hc => ?_) (fun hc => ?_)
      · have h := h.1 hc
        refine x_iconst (tk K_X11_seekBest 54 rfl) ic_m1 ?_
        refine x_msk [true, false, false] ?_
        exact h
      · have h := h.2 hc
        refine x_aload_n (tk K_X11_seekBest 51 rfl) rfl rfl ?_
        refine x_getI (tk K_X11_seekBest 52 rfl) f_X11_369 rfl (RfS.o hT2) ?_
        refine x_goto (t := 145) (tk K_X11_seekBest 53 rfl) rfl ?_
        refine x_msk [true, false, false] ?_
        exact h
    · refine ⟨183, 208, rfl, rfl, ?_⟩
      have h := h.2.2.2.2.1 (by omega)
      exact h
    · refine ⟨128, 153, rfl, rfl, ?_⟩
      have h := h.2.2.2.2.2.1 (by omega)
      refine x_aload_n (tk K_X11_seekBest 59 rfl) rfl rfl ?_
      refine x_iload_n (tk K_X11_seekBest 60 rfl) rfl rfl ?_
      refine x_callV0 (As := [vI _]) (S := []) (tk K_X11_seekBest 61 rfl) mk_X11_421 mo_X11_seekPair (RfS.o hT1) rfl rfl (Nat.le_of_ble_eq_true rfl) hd h (fun r M7 hq => ?_)
      obtain ⟨x5, rfl, hE, h⟩ := hq
      have hT3 := RfS.ext hT1 hE
      exact x_ireturn (tk K_X11_seekBest 62 rfl) rfl rfl h
    · refine ⟨183, 208, rfl, rfl, ?_⟩
      have h := h.2.2.2.2.2.2.1 (by omega)
      exact h
    · refine ⟨134, 159, rfl, rfl, ?_⟩
      have h := h.2.2.2.2.2.2.2 (by omega)
      refine x_aload_n (tk K_X11_seekBest 63 rfl) rfl rfl ?_
      refine x_iconst (tk K_X11_seekBest 64 rfl) ic_0 ?_
      refine x_aload_n (tk K_X11_seekBest 65 rfl) rfl rfl ?_
      refine x_aload_n (tk K_X11_seekBest 66 rfl) rfl rfl ?_
      refine x_getI (tk K_X11_seekBest 67 rfl) f_X11_318 rfl (RfS.o hT1) ?_
      refine x_aload_n (tk K_X11_seekBest 68 rfl) rfl rfl ?_
      refine x_getI (tk K_X11_seekBest 69 rfl) f_X11_282 rfl (RfS.o hT1) ?_
      refine x_aload_n (tk K_X11_seekBest 70 rfl) rfl rfl ?_
      refine x_getI (tk K_X11_seekBest 71 rfl) f_X11_285 rfl (RfS.o hT1) ?_
      refine x_callV0 (As := [vI _, vI _, vI _]) (S := [vI _, vR _]) (tk K_X11_seekBest 72 rfl) mk_X11_396 mo_X11_cutWorth (RfS.o hT1) rfl rfl (Nat.le_of_ble_eq_true rfl) hd h (fun r M8 hq => ?_)
      obtain ⟨x6, rfl, hE, h⟩ := hq
      have hT4 := RfS.ext hT1 hE
      refine x_iload_n (tk K_X11_seekBest 73 rfl) rfl rfl ?_
      refine x_callV0 (As := [vI _, vI _, vI _]) (S := []) (tk K_X11_seekBest 74 rfl) mk_X11_417 mo_X11_offer (RfS.o hT4) rfl rfl (Nat.le_of_ble_eq_true rfl) hd h (fun r M9 hq => ?_)
      obtain ⟨rfl, hE, h⟩ := hq
      have hT5 := RfS.ext hT4 hE
      refine x_aload_n (tk K_X11_seekBest 75 rfl) rfl rfl ?_
      refine x_iconst (tk K_X11_seekBest 76 rfl) ic_1 ?_
      refine x_aload_n (tk K_X11_seekBest 77 rfl) rfl rfl ?_
      refine x_aload_n (tk K_X11_seekBest 78 rfl) rfl rfl ?_
      refine x_getI (tk K_X11_seekBest 79 rfl) f_X11_328 rfl (RfS.o hT5) ?_
      refine x_aload_n (tk K_X11_seekBest 80 rfl) rfl rfl ?_
      refine x_getI (tk K_X11_seekBest 81 rfl) f_X11_282 rfl (RfS.o hT5) ?_
      refine x_aload_n (tk K_X11_seekBest 82 rfl) rfl rfl ?_
      refine x_getI (tk K_X11_seekBest 83 rfl) f_X11_285 rfl (RfS.o hT5) ?_
      refine x_callV0 (As := [vI _, vI _, vI _]) (S := [vI _, vR _]) (tk K_X11_seekBest 84 rfl) mk_X11_396 mo_X11_cutWorth (RfS.o hT5) rfl rfl (Nat.le_of_ble_eq_true rfl) hd h (fun r M10 hq => ?_)
      obtain ⟨x7, rfl, hE, h⟩ := hq
      have hT6 := RfS.ext hT5 hE
      refine x_iload_n (tk K_X11_seekBest 85 rfl) rfl rfl ?_
      refine x_callV0 (As := [vI _, vI _, vI _]) (S := []) (tk K_X11_seekBest 86 rfl) mk_X11_417 mo_X11_offer (RfS.o hT6) rfl rfl (Nat.le_of_ble_eq_true rfl) hd h (fun r M11 hq => ?_)
      obtain ⟨rfl, hE, h⟩ := hq
      have hT7 := RfS.ext hT6 hE
      refine x_aload_n (tk K_X11_seekBest 87 rfl) rfl rfl ?_
      refine x_getI (tk K_X11_seekBest 88 rfl) f_X11_414 rfl (RfS.o hT7) ?_
      exact x_ireturn (tk K_X11_seekBest 89 rfl) rfl rfl h

theorem b_X11_seekBest_70 {X : Cx} {d kc ns : Nat} {M : Mem} {Q : Option AV → Mem → Prop} {l1 : Int32} {l2 : Int32} (hS : RfS M) (hd : 1 ≤ d)
    (h : (((mI M 75 27) ≤ l2 → Q (some (vI (mI M 75 41))) M) ∧ (¬ (mI M 75 27) ≤ l2 → Cl X (d - 1) 0 0 m_X11_keptValue [vR 75, vI (mI M 75 30), vI (mI M 75 26), vI (mI M 75 27), vI l2] M (fun r M1 => ∃ x1 : Int32, r = some (vI x1) ∧ Ext M M1 ∧ Cl X (d - 1) 0 0 m_X11_offer [vR 75, vI l2, vI x1, vI l1] M1 (fun r M2 => r = none ∧ Ext M1 M2 ∧ WA X d kc ns m_X11_seekBest 70 [some (vR 75), some (vI l1), some (vI (l2 + (nI 1)))] [] M2 Q))))) :
    WA X d kc ns m_X11_seekBest 70 [some (vR 75), some (vI l1), some (vI l2)] [] M Q := by
  refine x_iload_n (tk K_X11_seekBest 16 rfl) rfl rfl ?_
  refine x_aload_n (tk K_X11_seekBest 17 rfl) rfl rfl ?_
  refine x_getI (tk K_X11_seekBest 18 rfl) f_X11_285 rfl (RfS.o hS) ?_
  refine x_icmp_ge (t := 107) (tk K_X11_seekBest 19 rfl) rfl (fun hc => ?_) (fun hc => ?_)
  · have h := h.1 hc
    refine x_aload_n (tk K_X11_seekBest 35 rfl) rfl rfl ?_
    refine x_getI (tk K_X11_seekBest 36 rfl) f_X11_414 rfl (RfS.o hS) ?_
    exact x_ireturn (tk K_X11_seekBest 37 rfl) rfl rfl h
  · have h := h.2 hc
    refine x_aload_n (tk K_X11_seekBest 20 rfl) rfl rfl ?_
    refine x_iload_n (tk K_X11_seekBest 21 rfl) rfl rfl ?_
    refine x_aload_n (tk K_X11_seekBest 22 rfl) rfl rfl ?_
    refine x_aload_n (tk K_X11_seekBest 23 rfl) rfl rfl ?_
    refine x_getI (tk K_X11_seekBest 24 rfl) f_X11_318 rfl (RfS.o hS) ?_
    refine x_aload_n (tk K_X11_seekBest 25 rfl) rfl rfl ?_
    refine x_getI (tk K_X11_seekBest 26 rfl) f_X11_282 rfl (RfS.o hS) ?_
    refine x_aload_n (tk K_X11_seekBest 27 rfl) rfl rfl ?_
    refine x_getI (tk K_X11_seekBest 28 rfl) f_X11_285 rfl (RfS.o hS) ?_
    refine x_iload_n (tk K_X11_seekBest 29 rfl) rfl rfl ?_
    refine x_callV0 (As := [vI _, vI _, vI _, vI _]) (S := [vI _, vR _]) (tk K_X11_seekBest 30 rfl) mk_X11_402 mo_X11_keptValue (RfS.o hS) rfl rfl (Nat.le_of_ble_eq_true rfl) hd h (fun r M1 hq => ?_)
    obtain ⟨x1, rfl, hE, h⟩ := hq
    have hT0 := RfS.ext hS hE
    refine x_iload_n (tk K_X11_seekBest 31 rfl) rfl rfl ?_
    refine x_callV0 (As := [vI _, vI _, vI _]) (S := []) (tk K_X11_seekBest 32 rfl) mk_X11_417 mo_X11_offer (RfS.o hT0) rfl rfl (Nat.le_of_ble_eq_true rfl) hd h (fun r M2 hq => ?_)
    obtain ⟨rfl, hE, h⟩ := hq
    have hT1 := RfS.ext hT0 hE
    refine x_iincW (L' := [some (vR _), some (vI _), some (vI _)]) (tk K_X11_seekBest 33 rfl) rfl ic_1 rfl (Nat.le_of_ble_eq_true rfl) rfl ?_
    refine x_goto (t := 70) (tk K_X11_seekBest 34 rfl) rfl ?_
    exact h

theorem b_X11_seekBest_145 {X : Cx} {d kc ns : Nat} {M : Mem} {Q : Option AV → Mem → Prop} {s1 : Int32} (hS : RfS M)
    (h : ∀ M1 : Mem, M1 = sI M 75 41 s1 → Q (some (vI (mI M1 75 41))) M1) :
    WA X d kc ns m_X11_seekBest 145 [some (vR 75), none, none] [vI s1, vR 75] M Q := by
  have h := h _ rfl
  refine x_putI (tk K_X11_seekBest 55 rfl) f_X11_414 rfl (Or.inl rfl) (RfS.o hS) ?_
  refine x_aload_n (tk K_X11_seekBest 56 rfl) rfl rfl ?_
  refine x_getI (tk K_X11_seekBest 57 rfl) f_X11_414 rfl (RfS.o hS) ?_
  exact x_ireturn (tk K_X11_seekBest 58 rfl) rfl rfl h

theorem b_X11_seekBest_208 {X : Cx} {d kc ns : Nat} {M : Mem} {Q : Option AV → Mem → Prop} {l1 : Int32} (hS : RfS M) (hd : 1 ≤ d)
    (h : Cl X (d - 1) 0 0 m_X11_seekCut [vR 75, vI l1] M (fun r M1 => r = none ∧ Ext M M1 ∧ Q (some (vI (mI M1 75 41))) M1)) :
    WA X d kc ns m_X11_seekBest 208 [some (vR 75), some (vI l1), none] [] M Q := by
  refine x_aload_n (tk K_X11_seekBest 90 rfl) rfl rfl ?_
  refine x_iload_n (tk K_X11_seekBest 91 rfl) rfl rfl ?_
  refine x_callV0 (As := [vI _]) (S := []) (tk K_X11_seekBest 92 rfl) mk_X11_424 mo_X11_seekCut (RfS.o hS) rfl rfl (Nat.le_of_ble_eq_true rfl) hd h (fun r M1 hq => ?_)
  obtain ⟨rfl, hE, h⟩ := hq
  have hT0 := RfS.ext hS hE
  refine x_aload_n (tk K_X11_seekBest 93 rfl) rfl rfl ?_
  refine x_getI (tk K_X11_seekBest 94 rfl) f_X11_414 rfl (RfS.o hT0) ?_
  exact x_ireturn (tk K_X11_seekBest 95 rfl) rfl rfl h

theorem e_X11_seekBest {X : Cx} {d kc ns : Nat} {M : Mem} {Q : Option AV → Mem → Prop} (h : WA X d kc ns m_X11_seekBest 0 [some (vR 75), none, none] [] M Q) : Cl X d kc ns m_X11_seekBest [vR 75] M Q := Cl.intro (k := 2) (by decide) rfl rfl h

-- TwoPencilsModel.offer(III)V
theorem b_X11_offer_0 {X : Cx} {d kc ns : Nat} {M : Mem} {Q : Option AV → Mem → Prop} {l1 : Int32} {l2 : Int32} {l3 : Int32} (hS : RfS M)
    (h : (((mI M 75 40) = (nI 1000) → WA X d kc ns m_X11_offer 34 [some (vR 75), some (vI l1), some (vI l2), none] [] M Q) ∧ (¬ (mI M 75 40) = (nI 1000) → ((¬ l3 = (nI 1) → (((mI M 75 40) ≤ l2 → Q none M) ∧ (¬ (mI M 75 40) ≤ l2 → WA X d kc ns m_X11_offer 34 [some (vR 75), some (vI l1), some (vI l2), none] [] M Q))) ∧ (l3 = (nI 1) → ((l2 ≤ (mI M 75 40) → Q none M) ∧ (¬ l2 ≤ (mI M 75 40) → WA X d kc ns m_X11_offer 34 [some (vR 75), some (vI l1), some (vI l2), none] [] M Q))))))) :
    WA X d kc ns m_X11_offer 0 [some (vR 75), some (vI l1), some (vI l2), some (vI l3)] [] M Q := by
  refine x_aload_n (tk K_X11_offer 0 rfl) rfl rfl ?_
  refine x_getI (tk K_X11_offer 1 rfl) f_X11_411 rfl (RfS.o hS) ?_
  refine x_sipush (tk K_X11_offer 2 rfl) sp_1000 ?_
  refine x_icmp_eq (t := 34) (tk K_X11_offer 3 rfl) rfl (fun hc => ?_) (fun hc => ?_)
  · have h := h.1 hc
    refine x_msk [true, true, true, false] ?_
    exact h
  · have h := h.2 hc
    refine x_iload_n (tk K_X11_offer 4 rfl) rfl rfl ?_
    refine x_iconst (tk K_X11_offer 5 rfl) ic_1 ?_
    refine x_icmp_ne (t := 26) (tk K_X11_offer 6 rfl) rfl (fun hc => ?_) (fun hc => ?_)
    · have h := h.1 hc
      refine x_iload_n (tk K_X11_offer 12 rfl) rfl rfl ?_
      refine x_aload_n (tk K_X11_offer 13 rfl) rfl rfl ?_
      refine x_getI (tk K_X11_offer 14 rfl) f_X11_411 rfl (RfS.o hS) ?_
      refine x_icmp_ge (t := 44) (tk K_X11_offer 15 rfl) rfl (fun hc => ?_) (fun hc => ?_)
      · have h := h.1 hc
        exact x_return (tk K_X11_offer 22 rfl) rfl h
      · have h := h.2 hc
        refine x_msk [true, true, true, false] ?_
        exact h
    · have h := h.2 hc
      refine x_iload_n (tk K_X11_offer 7 rfl) rfl rfl ?_
      refine x_aload_n (tk K_X11_offer 8 rfl) rfl rfl ?_
      refine x_getI (tk K_X11_offer 9 rfl) f_X11_411 rfl (RfS.o hS) ?_
      refine x_icmp_le (t := 44) (tk K_X11_offer 10 rfl) rfl (fun hc => ?_) (fun hc => ?_)
      · have h := h.1 hc
        exact x_return (tk K_X11_offer 22 rfl) rfl h
      · have h := h.2 hc
        refine x_goto (t := 34) (tk K_X11_offer 11 rfl) rfl ?_
        refine x_msk [true, true, true, false] ?_
        exact h

theorem b_X11_offer_34 {X : Cx} {d kc ns : Nat} {M : Mem} {Q : Option AV → Mem → Prop} {l1 : Int32} {l2 : Int32} (hS : RfS M)
    (h : ∀ M1 : Mem, M1 = sI M 75 40 l2 → ∀ M2 : Mem, M2 = sI M1 75 41 l1 → Q none M2) :
    WA X d kc ns m_X11_offer 34 [some (vR 75), some (vI l1), some (vI l2), none] [] M Q := by
  refine x_aload_n (tk K_X11_offer 16 rfl) rfl rfl ?_
  refine x_iload_n (tk K_X11_offer 17 rfl) rfl rfl ?_
  have h := h _ rfl
  refine x_putI (tk K_X11_offer 18 rfl) f_X11_411 rfl (Or.inl rfl) (RfS.o hS) ?_
  refine x_aload_n (tk K_X11_offer 19 rfl) rfl rfl ?_
  refine x_iload_n (tk K_X11_offer 20 rfl) rfl rfl ?_
  have h := h _ rfl
  refine x_putI (tk K_X11_offer 21 rfl) f_X11_414 rfl (Or.inl rfl) (RfS.o hS) ?_
  exact x_return (tk K_X11_offer 22 rfl) rfl h

theorem e_X11_offer {X : Cx} {d kc ns : Nat} {M : Mem} {Q : Option AV → Mem → Prop} {a1 : Int32} {a2 : Int32} {a3 : Int32} (h : WA X d kc ns m_X11_offer 0 [some (vR 75), some (vI a1), some (vI a2), some (vI a3)] [] M Q) : Cl X d kc ns m_X11_offer [vR 75, vI a1, vI a2, vI a3] M Q := Cl.intro (k := 0) (by decide) rfl rfl h

-- TwoPencilsModel.seekCut(I)V
theorem b_X11_seekCut_0 {X : Cx} {d kc ns : Nat} {M : Mem} {Q : Option AV → Mem → Prop} {l1 : Int32} (hS : RfS M) (hd : 1 ≤ d)
    (h : Cl X (d - 1) 0 0 m_X11_list [vR 75, vI (mI M 75 27), vI (mI M 75 26), vI (mI M 75 27)] M (fun r M1 => ∃ x1 : Int32, r = some (vI x1) ∧ Ext M M1 ∧ WA X d kc ns m_X11_seekCut 19 [some (vR 75), some (vI l1), some (vI x1), some (vI (nI 0)), none] [] M1 Q)) :
    WA X d kc ns m_X11_seekCut 0 [some (vR 75), some (vI l1), none, none, none] [] M Q := by
  refine x_aload_n (tk K_X11_seekCut 0 rfl) rfl rfl ?_
  refine x_aload_n (tk K_X11_seekCut 1 rfl) rfl rfl ?_
  refine x_getI (tk K_X11_seekCut 2 rfl) f_X11_285 rfl (RfS.o hS) ?_
  refine x_aload_n (tk K_X11_seekCut 3 rfl) rfl rfl ?_
  refine x_getI (tk K_X11_seekCut 4 rfl) f_X11_282 rfl (RfS.o hS) ?_
  refine x_aload_n (tk K_X11_seekCut 5 rfl) rfl rfl ?_
  refine x_getI (tk K_X11_seekCut 6 rfl) f_X11_285 rfl (RfS.o hS) ?_
  refine x_callV0 (As := [vI _, vI _, vI _]) (S := []) (tk K_X11_seekCut 7 rfl) mk_X11_233 mo_X11_list (RfS.o hS) rfl rfl (Nat.le_of_ble_eq_true rfl) hd h (fun r M1 hq => ?_)
  obtain ⟨x1, rfl, hE, h⟩ := hq
  have hT0 := RfS.ext hS hE
  refine x_istore_n (L' := [some (vR _), some (vI _), some (vI _), none, none]) (tk K_X11_seekCut 8 rfl) rfl rfl (Nat.le_of_ble_eq_true rfl) rfl ?_
  refine x_iconst (tk K_X11_seekCut 9 rfl) ic_0 ?_
  refine x_istore_n (L' := [some (vR _), some (vI _), some (vI _), some (vI _), none]) (tk K_X11_seekCut 10 rfl) rfl rfl (Nat.le_of_ble_eq_true rfl) rfl ?_
  exact h

theorem b_X11_seekCut_19 {X : Cx} {d kc ns : Nat} {M : Mem} {Q : Option AV → Mem → Prop} {l1 : Int32} {l2 : Int32} {l3 : Int32} (hS : RfS M) (hd : 1 ≤ d)
    (h : ((l2 ≤ l3 → Q none M) ∧ (¬ l2 ≤ l3 → vp_in (((nI 8000) * (mI M 75 27)) + l3) 40000 ∧ ∀ x1 : Int32, x1 = (mI M 89 (ix (((nI 8000) * (mI M 75 27)) + l3))) → ((¬ (mI M 75 29) = nI 0 → (((mI M 75 29) = (nI 2) → WA X d kc ns m_X11_seekCut 100 [some (vR 75), some (vI l1), some (vI l2), some (vI l3), some (vI x1)] [] M Q) ∧ (¬ (mI M 75 29) = (nI 2) → ((¬ (mI M 75 29) = (nI 4) → WA X d kc ns m_X11_seekCut 124 [some (vR 75), some (vI l1), some (vI l2), some (vI l3), some (vI x1)] [] M Q) ∧ ((mI M 75 29) = (nI 4) → Cl X (d - 1) 0 0 m_X11_joins [vR 75, vI x1] M (fun r M1 => ∃ x2 : Int32, r = some (vI x2) ∧ Ext M M1 ∧ ((x2 = nI 0 → WA X d kc ns m_X11_seekCut 124 [some (vR 75), some (vI l1), some (vI l2), some (vI l3), some (vI x1)] [] M1 Q) ∧ (¬ x2 = nI 0 → WA X d kc ns m_X11_seekCut 100 [some (vR 75), some (vI l1), some (vI l2), some (vI l3), some (vI x1)] [] M1 Q)))))))) ∧ ((mI M 75 29) = nI 0 → Cl X (d - 1) 0 0 m_X11_keepValue [vR 75, vI x1, vI (mI M 75 26), vI (mI M 75 27), vI ((nI 1) - l1)] M (fun r M2 => ∃ x3 : Int32, r = some (vI x3) ∧ Ext M M2 ∧ Cl X (d - 1) 0 0 m_X11_offer [vR 75, vI x1, vI x3, vI l1] M2 (fun r M3 => r = none ∧ Ext M2 M3 ∧ WA X d kc ns m_X11_seekCut 19 [some (vR 75), some (vI l1), some (vI l2), some (vI (l3 + (nI 1))), none] [] M3 Q))))))) :
    WA X d kc ns m_X11_seekCut 19 [some (vR 75), some (vI l1), some (vI l2), some (vI l3), none] [] M Q := by
  refine x_iload_n (tk K_X11_seekCut 11 rfl) rfl rfl ?_
  refine x_iload_n (tk K_X11_seekCut 12 rfl) rfl rfl ?_
  refine x_icmp_ge (t := 189) (tk K_X11_seekCut 13 rfl) rfl (fun hc => ?_) (fun hc => ?_)
  · have h := h.1 hc
    exact x_return (tk K_X11_seekCut 97 rfl) rfl h
  · have h := h.2 hc
    refine x_aload_n (tk K_X11_seekCut 14 rfl) rfl rfl ?_
    refine x_getRc (tk K_X11_seekCut 15 rfl) f_X11_50 rfl (RfS.o hS) (RfS.r20 hS) ?_
    refine x_sipush (tk K_X11_seekCut 16 rfl) sp_8000 ?_
    refine x_aload_n (tk K_X11_seekCut 17 rfl) rfl rfl ?_
    refine x_getI (tk K_X11_seekCut 18 rfl) f_X11_285 rfl (RfS.o hS) ?_
    refine x_imul (tk K_X11_seekCut 19 rfl) ?_
    refine x_iload_n (tk K_X11_seekCut 20 rfl) rfl rfl ?_
    refine x_iadd (tk K_X11_seekCut 21 rfl) ?_
    have hi := h.1
    have h := h.2
    refine x_iald (tk K_X11_seekCut 22 rfl) (RfS.k20 hS) hi ?_
    have h := h _ rfl
    refine x_istore (L' := [some (vR _), some (vI _), some (vI _), some (vI _), some (vI _)]) (tk K_X11_seekCut 23 rfl) rfl (Nat.le_of_ble_eq_true rfl) rfl ?_
    refine x_aload_n (tk K_X11_seekCut 24 rfl) rfl rfl ?_
    refine x_getI (tk K_X11_seekCut 25 rfl) f_X11_300 rfl (RfS.o hS) ?_
    refine x_if_ne (t := 75) (tk K_X11_seekCut 26 rfl) rfl (fun hc => ?_) (fun hc => ?_)
    · have h := h.1 hc
      refine x_aload_n (tk K_X11_seekCut 42 rfl) rfl rfl ?_
      refine x_getI (tk K_X11_seekCut 43 rfl) f_X11_300 rfl (RfS.o hS) ?_
      refine x_iconst (tk K_X11_seekCut 44 rfl) ic_2 ?_
      refine x_icmp_eq (t := 100) (tk K_X11_seekCut 45 rfl) rfl (fun hc => ?_) (fun hc => ?_)
      · have h := h.1 hc
        exact h
      · have h := h.2 hc
        refine x_aload_n (tk K_X11_seekCut 46 rfl) rfl rfl ?_
        refine x_getI (tk K_X11_seekCut 47 rfl) f_X11_300 rfl (RfS.o hS) ?_
        refine x_iconst (tk K_X11_seekCut 48 rfl) ic_4 ?_
        refine x_icmp_ne (t := 124) (tk K_X11_seekCut 49 rfl) rfl (fun hc => ?_) (fun hc => ?_)
        · have h := h.1 hc
          exact h
        · have h := h.2 hc
          refine x_aload_n (tk K_X11_seekCut 50 rfl) rfl rfl ?_
          refine x_iload (tk K_X11_seekCut 51 rfl) rfl ?_
          refine x_callV0 (As := [vI _]) (S := []) (tk K_X11_seekCut 52 rfl) mk_X11_312 mo_X11_joins (RfS.o hS) rfl rfl (Nat.le_of_ble_eq_true rfl) hd h (fun r M1 hq => ?_)
          obtain ⟨x2, rfl, hE, h⟩ := hq
          have hT0 := RfS.ext hS hE
          have hT1 := hE.1 _ _ _ (RfS.k20 hS)
          refine x_if_eq (t := 124) (tk K_X11_seekCut 53 rfl) rfl (fun hc => ?_) (fun hc => ?_)
          · have h := h.1 hc
            exact h
          · have h := h.2 hc
            exact h
    · have h := h.2 hc
      refine x_aload_n (tk K_X11_seekCut 27 rfl) rfl rfl ?_
      refine x_iload (tk K_X11_seekCut 28 rfl) rfl ?_
      refine x_aload_n (tk K_X11_seekCut 29 rfl) rfl rfl ?_
      refine x_iload (tk K_X11_seekCut 30 rfl) rfl ?_
      refine x_aload_n (tk K_X11_seekCut 31 rfl) rfl rfl ?_
      refine x_getI (tk K_X11_seekCut 32 rfl) f_X11_282 rfl (RfS.o hS) ?_
      refine x_aload_n (tk K_X11_seekCut 33 rfl) rfl rfl ?_
      refine x_getI (tk K_X11_seekCut 34 rfl) f_X11_285 rfl (RfS.o hS) ?_
      refine x_iconst (tk K_X11_seekCut 35 rfl) ic_1 ?_
      refine x_iload_n (tk K_X11_seekCut 36 rfl) rfl rfl ?_
      refine x_isub (tk K_X11_seekCut 37 rfl) ?_
      refine x_callV0 (As := [vI _, vI _, vI _, vI _]) (S := [vI _, vR _]) (tk K_X11_seekCut 38 rfl) mk_X11_393 mo_X11_keepValue (RfS.o hS) rfl rfl (Nat.le_of_ble_eq_true rfl) hd h (fun r M2 hq => ?_)
      obtain ⟨x3, rfl, hE, h⟩ := hq
      have hT2 := RfS.ext hS hE
      have hT3 := hE.1 _ _ _ (RfS.k20 hS)
      refine x_iload_n (tk K_X11_seekCut 39 rfl) rfl rfl ?_
      refine x_callV0 (As := [vI _, vI _, vI _]) (S := []) (tk K_X11_seekCut 40 rfl) mk_X11_417 mo_X11_offer (RfS.o hT2) rfl rfl (Nat.le_of_ble_eq_true rfl) hd h (fun r M3 hq => ?_)
      obtain ⟨rfl, hE, h⟩ := hq
      have hT4 := RfS.ext hT2 hE
      have hT5 := hE.1 _ _ _ hT3
      refine x_goto (t := 183) (tk K_X11_seekCut 41 rfl) rfl ?_
      refine x_iincW (L' := [some (vR _), some (vI _), some (vI _), some (vI _), some (vI _)]) (tk K_X11_seekCut 95 rfl) rfl ic_1 rfl (Nat.le_of_ble_eq_true rfl) rfl ?_
      refine x_goto (t := 19) (tk K_X11_seekCut 96 rfl) rfl ?_
      refine x_msk [true, true, true, true, false] ?_
      exact h

theorem b_X11_seekCut_100 {X : Cx} {d kc ns : Nat} {M : Mem} {Q : Option AV → Mem → Prop} {l1 : Int32} {l2 : Int32} {l3 : Int32} {l4 : Int32} (hS : RfS M) (hd : 1 ≤ d)
    (h : Cl X (d - 1) 0 0 m_X11_cutWorth [vR 75, vI l4, vI (mI M 75 26), vI (mI M 75 27)] M (fun r M1 => ∃ x1 : Int32, r = some (vI x1) ∧ Ext M M1 ∧ Cl X (d - 1) 0 0 m_X11_offer [vR 75, vI l4, vI x1, vI l1] M1 (fun r M2 => r = none ∧ Ext M1 M2 ∧ WA X d kc ns m_X11_seekCut 19 [some (vR 75), some (vI l1), some (vI l2), some (vI (l3 + (nI 1))), none] [] M2 Q))) :
    WA X d kc ns m_X11_seekCut 100 [some (vR 75), some (vI l1), some (vI l2), some (vI l3), some (vI l4)] [] M Q := by
  refine x_aload_n (tk K_X11_seekCut 54 rfl) rfl rfl ?_
  refine x_iload (tk K_X11_seekCut 55 rfl) rfl ?_
  refine x_aload_n (tk K_X11_seekCut 56 rfl) rfl rfl ?_
  refine x_iload (tk K_X11_seekCut 57 rfl) rfl ?_
  refine x_aload_n (tk K_X11_seekCut 58 rfl) rfl rfl ?_
  refine x_getI (tk K_X11_seekCut 59 rfl) f_X11_282 rfl (RfS.o hS) ?_
  refine x_aload_n (tk K_X11_seekCut 60 rfl) rfl rfl ?_
  refine x_getI (tk K_X11_seekCut 61 rfl) f_X11_285 rfl (RfS.o hS) ?_
  refine x_callV0 (As := [vI _, vI _, vI _]) (S := [vI _, vR _]) (tk K_X11_seekCut 62 rfl) mk_X11_396 mo_X11_cutWorth (RfS.o hS) rfl rfl (Nat.le_of_ble_eq_true rfl) hd h (fun r M1 hq => ?_)
  obtain ⟨x1, rfl, hE, h⟩ := hq
  have hT0 := RfS.ext hS hE
  refine x_iload_n (tk K_X11_seekCut 63 rfl) rfl rfl ?_
  refine x_callV0 (As := [vI _, vI _, vI _]) (S := []) (tk K_X11_seekCut 64 rfl) mk_X11_417 mo_X11_offer (RfS.o hT0) rfl rfl (Nat.le_of_ble_eq_true rfl) hd h (fun r M2 hq => ?_)
  obtain ⟨rfl, hE, h⟩ := hq
  have hT1 := RfS.ext hT0 hE
  refine x_goto (t := 183) (tk K_X11_seekCut 65 rfl) rfl ?_
  refine x_iincW (L' := [some (vR _), some (vI _), some (vI _), some (vI _), some (vI _)]) (tk K_X11_seekCut 95 rfl) rfl ic_1 rfl (Nat.le_of_ble_eq_true rfl) rfl ?_
  refine x_goto (t := 19) (tk K_X11_seekCut 96 rfl) rfl ?_
  refine x_msk [true, true, true, true, false] ?_
  exact h

theorem b_X11_seekCut_124 {X : Cx} {d kc ns : Nat} {M : Mem} {Q : Option AV → Mem → Prop} {l1 : Int32} {l2 : Int32} {l3 : Int32} {l4 : Int32} (hS : RfS M) (hd : 1 ≤ d)
    (h : ((¬ (mI M 75 29) = (nI 6) → WA X d kc ns m_X11_seekCut 19 [some (vR 75), some (vI l1), some (vI l2), some (vI (l3 + (nI 1))), none] [] M Q) ∧ ((mI M 75 29) = (nI 6) → ((l4 ≤ (mI M 75 30) → WA X d kc ns m_X11_seekCut 19 [some (vR 75), some (vI l1), some (vI l2), some (vI (l3 + (nI 1))), none] [] M Q) ∧ (¬ l4 ≤ (mI M 75 30) → Cl X (d - 1) 0 0 m_X11_cutWorth [vR 75, vI (mI M 75 30), vI (mI M 75 26), vI (mI M 75 27)] M (fun r M1 => ∃ x1 : Int32, r = some (vI x1) ∧ Ext M M1 ∧ Cl X (d - 1) 0 0 m_X11_cutWorth [vR 75, vI l4, vI (mI M1 75 26), vI (mI M1 75 27)] M1 (fun r M2 => ∃ x2 : Int32, r = some (vI x2) ∧ Ext M1 M2 ∧ Cl X (d - 1) 0 0 m_X11_opposite [vI x1, vI x2, vI l1] M2 (fun r M3 => ∃ x3 : Int32, r = some (vI x3) ∧ Ext M2 M3 ∧ Cl X (d - 1) 0 0 m_X11_offer [vR 75, vI l4, vI x3, vI l1] M3 (fun r M4 => r = none ∧ Ext M3 M4 ∧ WA X d kc ns m_X11_seekCut 19 [some (vR 75), some (vI l1), some (vI l2), some (vI (l3 + (nI 1))), none] [] M4 Q))))))))) :
    WA X d kc ns m_X11_seekCut 124 [some (vR 75), some (vI l1), some (vI l2), some (vI l3), some (vI l4)] [] M Q := by
  refine x_aload_n (tk K_X11_seekCut 66 rfl) rfl rfl ?_
  refine x_getI (tk K_X11_seekCut 67 rfl) f_X11_300 rfl (RfS.o hS) ?_
  refine x_bipush (tk K_X11_seekCut 68 rfl) bp_6 ?_
  refine x_icmp_ne (t := 183) (tk K_X11_seekCut 69 rfl) rfl (fun hc => ?_) (fun hc => ?_)
  · have h := h.1 hc
    refine x_iincW (L' := [some (vR _), some (vI _), some (vI _), some (vI _), some (vI _)]) (tk K_X11_seekCut 95 rfl) rfl ic_1 rfl (Nat.le_of_ble_eq_true rfl) rfl ?_
    refine x_goto (t := 19) (tk K_X11_seekCut 96 rfl) rfl ?_
    refine x_msk [true, true, true, true, false] ?_
    exact h
  · have h := h.2 hc
    refine x_iload (tk K_X11_seekCut 70 rfl) rfl ?_
    refine x_aload_n (tk K_X11_seekCut 71 rfl) rfl rfl ?_
    refine x_getI (tk K_X11_seekCut 72 rfl) f_X11_318 rfl (RfS.o hS) ?_
    refine x_icmp_le (t := 183) (tk K_X11_seekCut 73 rfl) rfl (fun hc => ?_) (fun hc => ?_)
    · have h := h.1 hc
      refine x_iincW (L' := [some (vR _), some (vI _), some (vI _), some (vI _), some (vI _)]) (tk K_X11_seekCut 95 rfl) rfl ic_1 rfl (Nat.le_of_ble_eq_true rfl) rfl ?_
      refine x_goto (t := 19) (tk K_X11_seekCut 96 rfl) rfl ?_
      refine x_msk [true, true, true, true, false] ?_
      exact h
    · have h := h.2 hc
      refine x_aload_n (tk K_X11_seekCut 74 rfl) rfl rfl ?_
      refine x_iload (tk K_X11_seekCut 75 rfl) rfl ?_
      refine x_aload_n (tk K_X11_seekCut 76 rfl) rfl rfl ?_
      refine x_aload_n (tk K_X11_seekCut 77 rfl) rfl rfl ?_
      refine x_getI (tk K_X11_seekCut 78 rfl) f_X11_318 rfl (RfS.o hS) ?_
      refine x_aload_n (tk K_X11_seekCut 79 rfl) rfl rfl ?_
      refine x_getI (tk K_X11_seekCut 80 rfl) f_X11_282 rfl (RfS.o hS) ?_
      refine x_aload_n (tk K_X11_seekCut 81 rfl) rfl rfl ?_
      refine x_getI (tk K_X11_seekCut 82 rfl) f_X11_285 rfl (RfS.o hS) ?_
      refine x_callV0 (As := [vI _, vI _, vI _]) (S := [vI _, vR _]) (tk K_X11_seekCut 83 rfl) mk_X11_396 mo_X11_cutWorth (RfS.o hS) rfl rfl (Nat.le_of_ble_eq_true rfl) hd h (fun r M1 hq => ?_)
      obtain ⟨x1, rfl, hE, h⟩ := hq
      have hT0 := RfS.ext hS hE
      refine x_aload_n (tk K_X11_seekCut 84 rfl) rfl rfl ?_
      refine x_iload (tk K_X11_seekCut 85 rfl) rfl ?_
      refine x_aload_n (tk K_X11_seekCut 86 rfl) rfl rfl ?_
      refine x_getI (tk K_X11_seekCut 87 rfl) f_X11_282 rfl (RfS.o hT0) ?_
      refine x_aload_n (tk K_X11_seekCut 88 rfl) rfl rfl ?_
      refine x_getI (tk K_X11_seekCut 89 rfl) f_X11_285 rfl (RfS.o hT0) ?_
      refine x_callV0 (As := [vI _, vI _, vI _]) (S := [vI _, vI _, vR _]) (tk K_X11_seekCut 90 rfl) mk_X11_396 mo_X11_cutWorth (RfS.o hT0) rfl rfl (Nat.le_of_ble_eq_true rfl) hd h (fun r M2 hq => ?_)
      obtain ⟨x2, rfl, hE, h⟩ := hq
      have hT1 := RfS.ext hT0 hE
      refine x_iload_n (tk K_X11_seekCut 91 rfl) rfl rfl ?_
      refine x_callS0 (As := [vI _, vI _, vI _]) (S := [vI _, vR _]) (tk K_X11_seekCut 92 rfl) mk_X11_427 mo_X11_opposite rfl rfl (Nat.le_of_ble_eq_true rfl) hd h (fun r M3 hq => ?_)
      obtain ⟨x3, rfl, hE, h⟩ := hq
      have hT2 := RfS.ext hT1 hE
      refine x_iload_n (tk K_X11_seekCut 93 rfl) rfl rfl ?_
      refine x_callV0 (As := [vI _, vI _, vI _]) (S := []) (tk K_X11_seekCut 94 rfl) mk_X11_417 mo_X11_offer (RfS.o hT2) rfl rfl (Nat.le_of_ble_eq_true rfl) hd h (fun r M4 hq => ?_)
      obtain ⟨rfl, hE, h⟩ := hq
      have hT3 := RfS.ext hT2 hE
      refine x_iincW (L' := [some (vR _), some (vI _), some (vI _), some (vI _), some (vI _)]) (tk K_X11_seekCut 95 rfl) rfl ic_1 rfl (Nat.le_of_ble_eq_true rfl) rfl ?_
      refine x_goto (t := 19) (tk K_X11_seekCut 96 rfl) rfl ?_
      refine x_msk [true, true, true, true, false] ?_
      exact h

theorem e_X11_seekCut {X : Cx} {d kc ns : Nat} {M : Mem} {Q : Option AV → Mem → Prop} {a1 : Int32} (h : WA X d kc ns m_X11_seekCut 0 [some (vR 75), some (vI a1), none, none, none] [] M Q) : Cl X d kc ns m_X11_seekCut [vR 75, vI a1] M Q := Cl.intro (k := 3) (by decide) rfl rfl h

-- TwoPencilsModel.seekPair(I)I
theorem b_X11_seekPair_0 {X : Cx} {d kc ns : Nat} {M : Mem} {Q : Option AV → Mem → Prop} {l1 : Int32} (hS : RfS M) (hd : 1 ≤ d)
    (h : Cl X (d - 1) 0 0 m_X11_list [vR 75, vI (mI M 75 27), vI (mI M 75 26), vI (mI M 75 27)] M (fun r M1 => ∃ x1 : Int32, r = some (vI x1) ∧ Ext M M1 ∧ WA X d kc ns m_X11_seekPair 19 [some (vR 75), some (vI l1), some (vI x1), some (vI (nI 0)), none, none, none] [] M1 Q)) :
    WA X d kc ns m_X11_seekPair 0 [some (vR 75), some (vI l1), none, none, none, none, none] [] M Q := by
  refine x_aload_n (tk K_X11_seekPair 0 rfl) rfl rfl ?_
  refine x_aload_n (tk K_X11_seekPair 1 rfl) rfl rfl ?_
  refine x_getI (tk K_X11_seekPair 2 rfl) f_X11_285 rfl (RfS.o hS) ?_
  refine x_aload_n (tk K_X11_seekPair 3 rfl) rfl rfl ?_
  refine x_getI (tk K_X11_seekPair 4 rfl) f_X11_282 rfl (RfS.o hS) ?_
  refine x_aload_n (tk K_X11_seekPair 5 rfl) rfl rfl ?_
  refine x_getI (tk K_X11_seekPair 6 rfl) f_X11_285 rfl (RfS.o hS) ?_
  refine x_callV0 (As := [vI _, vI _, vI _]) (S := []) (tk K_X11_seekPair 7 rfl) mk_X11_233 mo_X11_list (RfS.o hS) rfl rfl (Nat.le_of_ble_eq_true rfl) hd h (fun r M1 hq => ?_)
  obtain ⟨x1, rfl, hE, h⟩ := hq
  have hT0 := RfS.ext hS hE
  refine x_istore_n (L' := [some (vR _), some (vI _), some (vI _), none, none, none, none]) (tk K_X11_seekPair 8 rfl) rfl rfl (Nat.le_of_ble_eq_true rfl) rfl ?_
  refine x_iconst (tk K_X11_seekPair 9 rfl) ic_0 ?_
  refine x_istore_n (L' := [some (vR _), some (vI _), some (vI _), some (vI _), none, none, none]) (tk K_X11_seekPair 10 rfl) rfl rfl (Nat.le_of_ble_eq_true rfl) rfl ?_
  exact h

theorem b_X11_seekPair_19 {X : Cx} {d kc ns : Nat} {M : Mem} {Q : Option AV → Mem → Prop} {l1 : Int32} {l2 : Int32} {l3 : Int32} (hS : RfS M) (hd : 1 ≤ d)
    (h : ((l2 ≤ l3 → ((¬ l2 = (nI 1) → WA X d kc ns m_X11_seekPair 92 [some (vR 75), some (vI l1), some (vI l2), none, none, none, none] [] M Q) ∧ (l2 = (nI 1) → vp_in ((nI 8000) * (mI M 75 27)) 40000 ∧ Cl X (d - 1) 0 0 m_X11_offer [vR 75, vI (mI M 89 (ix ((nI 8000) * (mI M 75 27)))), vI (mI M 96 (ix (nI 0))), vI l1] M (fun r M1 => r = none ∧ Ext M M1 ∧ WA X d kc ns m_X11_seekPair 92 [some (vR 75), some (vI l1), some (vI l2), none, none, none, none] [] M1 Q)))) ∧ (¬ l2 ≤ l3 → vp_in (((nI 8000) * (mI M 75 27)) + l3) 40000 ∧ Cl X (d - 1) 0 0 m_X11_cutWorth [vR 75, vI (mI M 89 (ix (((nI 8000) * (mI M 75 27)) + l3))), vI (mI M 75 26), vI (mI M 75 27)] M (fun r M2 => ∃ x1 : Int32, r = some (vI x1) ∧ Ext M M2 ∧ vp_in l3 8000 ∧ ∀ M3 : Mem, M3 = sI M2 96 (ix l3) x1 → WA X d kc ns m_X11_seekPair 19 [some (vR 75), some (vI l1), some (vI l2), some (vI (l3 + (nI 1))), none, none, none] [] M3 Q)))) :
    WA X d kc ns m_X11_seekPair 19 [some (vR 75), some (vI l1), some (vI l2), some (vI l3), none, none, none] [] M Q := by
  refine x_iload_n (tk K_X11_seekPair 11 rfl) rfl rfl ?_
  refine x_iload_n (tk K_X11_seekPair 12 rfl) rfl rfl ?_
  refine x_icmp_ge (t := 63) (tk K_X11_seekPair 13 rfl) rfl (fun hc => ?_) (fun hc => ?_)
  · have h := h.1 hc
    refine x_iload_n (tk K_X11_seekPair 35 rfl) rfl rfl ?_
    refine x_iconst (tk K_X11_seekPair 36 rfl) ic_1 ?_
    refine x_icmp_ne (t := 92) (tk K_X11_seekPair 37 rfl) rfl (fun hc => ?_) (fun hc => ?_)
    · have h := h.1 hc
      refine x_msk [true, true, true, false, false, false, false] ?_
      exact h
    · have h := h.2 hc
      refine x_aload_n (tk K_X11_seekPair 38 rfl) rfl rfl ?_
      refine x_aload_n (tk K_X11_seekPair 39 rfl) rfl rfl ?_
      refine x_getRc (tk K_X11_seekPair 40 rfl) f_X11_50 rfl (RfS.o hS) (RfS.r20 hS) ?_
      refine x_sipush (tk K_X11_seekPair 41 rfl) sp_8000 ?_
      refine x_aload_n (tk K_X11_seekPair 42 rfl) rfl rfl ?_
      refine x_getI (tk K_X11_seekPair 43 rfl) f_X11_285 rfl (RfS.o hS) ?_
      refine x_imul (tk K_X11_seekPair 44 rfl) ?_
      have hi := h.1
      have h := h.2
      refine x_iald (tk K_X11_seekPair 45 rfl) (RfS.k20 hS) hi ?_
      refine x_aload_n (tk K_X11_seekPair 46 rfl) rfl rfl ?_
      refine x_getRc (tk K_X11_seekPair 47 rfl) f_X11_72 rfl (RfS.o hS) (RfS.r45 hS) ?_
      refine x_iconst (tk K_X11_seekPair 48 rfl) ic_0 ?_
      refine x_iald (tk K_X11_seekPair 49 rfl) (RfS.k45 hS) (show vp_in (nI 0) 8000 by unfold vp_in; decide) ?_
      refine x_iload_n (tk K_X11_seekPair 50 rfl) rfl rfl ?_
      refine x_callV0 (As := [vI _, vI _, vI _]) (S := []) (tk K_X11_seekPair 51 rfl) mk_X11_417 mo_X11_offer (RfS.o hS) rfl rfl (Nat.le_of_ble_eq_true rfl) hd h (fun r M1 hq => ?_)
      obtain ⟨rfl, hE, h⟩ := hq
      have hT0 := RfS.ext hS hE
      have hT1 := hE.1 _ _ _ (RfS.k20 hS)
      have hT2 := hE.1 _ _ _ (RfS.k45 hS)
      refine x_msk [true, true, true, false, false, false, false] ?_
      exact h
  · have h := h.2 hc
    refine x_aload_n (tk K_X11_seekPair 14 rfl) rfl rfl ?_
    refine x_getRc (tk K_X11_seekPair 15 rfl) f_X11_72 rfl (RfS.o hS) (RfS.r45 hS) ?_
    refine x_iload_n (tk K_X11_seekPair 16 rfl) rfl rfl ?_
    refine x_aload_n (tk K_X11_seekPair 17 rfl) rfl rfl ?_
    refine x_aload_n (tk K_X11_seekPair 18 rfl) rfl rfl ?_
    refine x_getRc (tk K_X11_seekPair 19 rfl) f_X11_50 rfl (RfS.o hS) (RfS.r20 hS) ?_
    refine x_sipush (tk K_X11_seekPair 20 rfl) sp_8000 ?_
    refine x_aload_n (tk K_X11_seekPair 21 rfl) rfl rfl ?_
    refine x_getI (tk K_X11_seekPair 22 rfl) f_X11_285 rfl (RfS.o hS) ?_
    refine x_imul (tk K_X11_seekPair 23 rfl) ?_
    refine x_iload_n (tk K_X11_seekPair 24 rfl) rfl rfl ?_
    refine x_iadd (tk K_X11_seekPair 25 rfl) ?_
    have hi := h.1
    have h := h.2
    refine x_iald (tk K_X11_seekPair 26 rfl) (RfS.k20 hS) hi ?_
    refine x_aload_n (tk K_X11_seekPair 27 rfl) rfl rfl ?_
    refine x_getI (tk K_X11_seekPair 28 rfl) f_X11_282 rfl (RfS.o hS) ?_
    refine x_aload_n (tk K_X11_seekPair 29 rfl) rfl rfl ?_
    refine x_getI (tk K_X11_seekPair 30 rfl) f_X11_285 rfl (RfS.o hS) ?_
    refine x_callV0 (As := [vI _, vI _, vI _]) (S := [vI _, vR _]) (tk K_X11_seekPair 31 rfl) mk_X11_396 mo_X11_cutWorth (RfS.o hS) rfl rfl (Nat.le_of_ble_eq_true rfl) hd h (fun r M2 hq => ?_)
    obtain ⟨x1, rfl, hE, h⟩ := hq
    have hT3 := RfS.ext hS hE
    have hT4 := hE.1 _ _ _ (RfS.k45 hS)
    have hT5 := hE.1 _ _ _ (RfS.k20 hS)
    have hi := h.1
    have h := h.2
    have h := h _ rfl
    refine x_iast (tk K_X11_seekPair 32 rfl) hT4 hi ?_
    refine x_iincW (L' := [some (vR _), some (vI _), some (vI _), some (vI _), none, none, none]) (tk K_X11_seekPair 33 rfl) rfl ic_1 rfl (Nat.le_of_ble_eq_true rfl) rfl ?_
    refine x_goto (t := 19) (tk K_X11_seekPair 34 rfl) rfl ?_
    exact h

theorem b_X11_seekPair_92 {X : Cx} {d kc ns : Nat} {M : Mem} {Q : Option AV → Mem → Prop} {l1 : Int32} {l2 : Int32} (hS : RfS M)
    (h : ((¬ l2 = nI 0 → vp_in (l2 - (nI 1)) 8000 ∧ WA X d kc ns m_X11_seekPair 108 [some (vR 75), some (vI l1), some (vI l2), none, none, none, none] [vI (mI M 96 (ix (l2 - (nI 1))))] M Q) ∧ (l2 = nI 0 → WA X d kc ns m_X11_seekPair 108 [some (vR 75), some (vI l1), some (vI l2), none, none, none, none] [vI (nI 0)] M Q))) :
    WA X d kc ns m_X11_seekPair 92 [some (vR 75), some (vI l1), some (vI l2), none, none, none, none] [] M Q := by
  refine x_iload_n (tk K_X11_seekPair 52 rfl) rfl rfl ?_
  refine x_if_ne (t := 100) (tk K_X11_seekPair 53 rfl) rfl (fun hc => ?_) (fun hc => ?_)
  · have h := h.1 hc
    refine x_aload_n (tk K_X11_seekPair 56 rfl) rfl rfl ?_
    refine x_getRc (tk K_X11_seekPair 57 rfl) f_X11_72 rfl (RfS.o hS) (RfS.r45 hS) ?_
    refine x_iload_n (tk K_X11_seekPair 58 rfl) rfl rfl ?_
    refine x_iconst (tk K_X11_seekPair 59 rfl) ic_1 ?_
    refine x_isub (tk K_X11_seekPair 60 rfl) ?_
    have hi := h.1
    have h := h.2
    refine x_iald (tk K_X11_seekPair 61 rfl) (RfS.k45 hS) hi ?_
    exact h
  · have h := h.2 hc
    refine x_iconst (tk K_X11_seekPair 54 rfl) ic_0 ?_
    refine x_goto (t := 108) (tk K_X11_seekPair 55 rfl) rfl ?_
    exact h

theorem b_X11_seekPair_108 {X : Cx} {d kc ns : Nat} {M : Mem} {Q : Option AV → Mem → Prop} {l1 : Int32} {l2 : Int32} {s0 : Int32} (hS : RfS M)
    (h : ∀ x1 : Int32, x1 = (l2 - (nI 2)) → WA X d kc ns m_X11_seekPair 114 [some (vR 75), some (vI l1), none, some (vI s0), some (vI x1), none, none] [] M Q) :
    WA X d kc ns m_X11_seekPair 108 [some (vR 75), some (vI l1), some (vI l2), none, none, none, none] [vI s0] M Q := by
  refine x_istore_n (L' := [some (vR _), some (vI _), some (vI _), some (vI _), none, none, none]) (tk K_X11_seekPair 62 rfl) rfl rfl (Nat.le_of_ble_eq_true rfl) rfl ?_
  refine x_iload_n (tk K_X11_seekPair 63 rfl) rfl rfl ?_
  refine x_iconst (tk K_X11_seekPair 64 rfl) ic_2 ?_
  refine x_isub (tk K_X11_seekPair 65 rfl) ?_
  have h := h _ rfl
  refine x_istore (L' := [some (vR _), some (vI _), some (vI _), some (vI _), some (vI _), none, none]) (tk K_X11_seekPair 66 rfl) rfl (Nat.le_of_ble_eq_true rfl) rfl ?_
  refine x_msk [true, true, false, true, true, false, false] ?_
  exact h

theorem b_X11_seekPair_114 {X : Cx} {d kc ns : Nat} {M : Mem} {Q : Option AV → Mem → Prop} {l1 : Int32} {l3 : Int32} {l4 : Int32} (hS : RfS M) (hd : 1 ≤ d)
    (h : ((l4 < nI 0 → Q (some (vI (mI M 75 41))) M) ∧ (¬ l4 < nI 0 → vp_in l4 8000 ∧ Cl X (d - 1) 0 0 m_X11_opposite [vI (mI M 96 (ix l4)), vI l3, vI l1] M (fun r M1 => ∃ x1 : Int32, r = some (vI x1) ∧ Ext M M1 ∧ (((mI M1 75 40) = (nI 1000) → WA X d kc ns m_X11_seekPair 169 [some (vR 75), some (vI l1), none, some (vI l3), some (vI l4), some (vI x1), none] [] M1 Q) ∧ (¬ (mI M1 75 40) = (nI 1000) → ((¬ l1 = (nI 1) → (((mI M1 75 40) < x1 → WA X d kc ns m_X11_seekPair 173 [some (vR 75), some (vI l1), none, some (vI l3), some (vI l4), some (vI x1), none] [] M1 Q) ∧ (¬ (mI M1 75 40) < x1 → WA X d kc ns m_X11_seekPair 169 [some (vR 75), some (vI l1), none, some (vI l3), some (vI l4), some (vI x1), none] [] M1 Q))) ∧ (l1 = (nI 1) → ((x1 < (mI M1 75 40) → WA X d kc ns m_X11_seekPair 173 [some (vR 75), some (vI l1), none, some (vI l3), some (vI l4), some (vI x1), none] [] M1 Q) ∧ (¬ x1 < (mI M1 75 40) → WA X d kc ns m_X11_seekPair 169 [some (vR 75), some (vI l1), none, some (vI l3), some (vI l4), some (vI x1), none] [] M1 Q)))))))))) :
    WA X d kc ns m_X11_seekPair 114 [some (vR 75), some (vI l1), none, some (vI l3), some (vI l4), none, none] [] M Q := by
  refine x_iload (tk K_X11_seekPair 67 rfl) rfl ?_
  refine x_if_lt (t := 245) (tk K_X11_seekPair 68 rfl) rfl (fun hc => ?_) (fun hc => ?_)
  · have h := h.1 hc
    refine x_aload_n (tk K_X11_seekPair 131 rfl) rfl rfl ?_
    refine x_getI (tk K_X11_seekPair 132 rfl) f_X11_414 rfl (RfS.o hS) ?_
    exact x_ireturn (tk K_X11_seekPair 133 rfl) rfl rfl h
  · have h := h.2 hc
    refine x_aload_n (tk K_X11_seekPair 69 rfl) rfl rfl ?_
    refine x_getRc (tk K_X11_seekPair 70 rfl) f_X11_72 rfl (RfS.o hS) (RfS.r45 hS) ?_
    refine x_iload (tk K_X11_seekPair 71 rfl) rfl ?_
    have hi := h.1
    have h := h.2
    refine x_iald (tk K_X11_seekPair 72 rfl) (RfS.k45 hS) hi ?_
    refine x_iload_n (tk K_X11_seekPair 73 rfl) rfl rfl ?_
    refine x_iload_n (tk K_X11_seekPair 74 rfl) rfl rfl ?_
    refine x_callS0 (As := [vI _, vI _, vI _]) (S := []) (tk K_X11_seekPair 75 rfl) mk_X11_427 mo_X11_opposite rfl rfl (Nat.le_of_ble_eq_true rfl) hd h (fun r M1 hq => ?_)
    obtain ⟨x1, rfl, hE, h⟩ := hq
    have hT0 := RfS.ext hS hE
    have hT1 := hE.1 _ _ _ (RfS.k45 hS)
    refine x_istore (L' := [some (vR _), some (vI _), none, some (vI _), some (vI _), some (vI _), none]) (tk K_X11_seekPair 76 rfl) rfl (Nat.le_of_ble_eq_true rfl) rfl ?_
    refine x_aload_n (tk K_X11_seekPair 77 rfl) rfl rfl ?_
    refine x_getI (tk K_X11_seekPair 78 rfl) f_X11_411 rfl (RfS.o hT0) ?_
    refine x_sipush (tk K_X11_seekPair 79 rfl) sp_1000 ?_
    refine x_icmp_eq (t := 169) (tk K_X11_seekPair 80 rfl) rfl (fun hc => ?_) (fun hc => ?_)
    · have h := h.1 hc
      exact h
    · have h := h.2 hc
      refine x_iload_n (tk K_X11_seekPair 81 rfl) rfl rfl ?_
      refine x_iconst (tk K_X11_seekPair 82 rfl) ic_1 ?_
      refine x_icmp_ne (t := 160) (tk K_X11_seekPair 83 rfl) rfl (fun hc => ?_) (fun hc => ?_)
      · have h := h.1 hc
        refine x_iload (tk K_X11_seekPair 89 rfl) rfl ?_
        refine x_aload_n (tk K_X11_seekPair 90 rfl) rfl rfl ?_
        refine x_getI (tk K_X11_seekPair 91 rfl) f_X11_411 rfl (RfS.o hT0) ?_
        refine x_icmp_gt (t := 173) (tk K_X11_seekPair 92 rfl) rfl (fun hc => ?_) (fun hc => ?_)
        · have h := h.1 hc
          exact h
        · have h := h.2 hc
          exact h
      · have h := h.2 hc
        refine x_iload (tk K_X11_seekPair 84 rfl) rfl ?_
        refine x_aload_n (tk K_X11_seekPair 85 rfl) rfl rfl ?_
        refine x_getI (tk K_X11_seekPair 86 rfl) f_X11_411 rfl (RfS.o hT0) ?_
        refine x_icmp_lt (t := 173) (tk K_X11_seekPair 87 rfl) rfl (fun hc => ?_) (fun hc => ?_)
        · have h := h.1 hc
          exact h
        · have h := h.2 hc
          refine x_goto (t := 169) (tk K_X11_seekPair 88 rfl) rfl ?_
          exact h

theorem b_X11_seekPair_169 {X : Cx} {d kc ns : Nat} {M : Mem} {Q : Option AV → Mem → Prop} {l1 : Int32} {l3 : Int32} {l4 : Int32} {l5 : Int32} (hS : RfS M)
    (h : WA X d kc ns m_X11_seekPair 174 [some (vR 75), some (vI l1), none, some (vI l3), some (vI l4), some (vI l5), none] [vI (nI 1)] M Q) :
    WA X d kc ns m_X11_seekPair 169 [some (vR 75), some (vI l1), none, some (vI l3), some (vI l4), some (vI l5), none] [] M Q := by
  refine x_iconst (tk K_X11_seekPair 93 rfl) ic_1 ?_
  refine x_goto (t := 174) (tk K_X11_seekPair 94 rfl) rfl ?_
  exact h

theorem b_X11_seekPair_173 {X : Cx} {d kc ns : Nat} {M : Mem} {Q : Option AV → Mem → Prop} {l1 : Int32} {l3 : Int32} {l4 : Int32} {l5 : Int32} (hS : RfS M)
    (h : WA X d kc ns m_X11_seekPair 174 [some (vR 75), some (vI l1), none, some (vI l3), some (vI l4), some (vI l5), none] [vI (nI 0)] M Q) :
    WA X d kc ns m_X11_seekPair 173 [some (vR 75), some (vI l1), none, some (vI l3), some (vI l4), some (vI l5), none] [] M Q := by
  refine x_iconst (tk K_X11_seekPair 95 rfl) ic_0 ?_
  exact h

theorem b_X11_seekPair_174 {X : Cx} {d kc ns : Nat} {M : Mem} {Q : Option AV → Mem → Prop} {l1 : Int32} {l3 : Int32} {l4 : Int32} {l5 : Int32} {s0 : Int32} (hS : RfS M)
    (h : ((s0 = nI 0 → WA X d kc ns m_X11_seekPair 205 [some (vR 75), some (vI l1), none, some (vI l3), some (vI l4), some (vI l5), some (vI s0)] [vI (mI M 75 41), vR 75] M Q) ∧ (¬ s0 = nI 0 → vp_in (((nI 8000) * (mI M 75 27)) + l4) 40000 ∧ WA X d kc ns m_X11_seekPair 205 [some (vR 75), some (vI l1), none, some (vI l3), some (vI l4), some (vI l5), some (vI s0)] [vI (mI M 89 (ix (((nI 8000) * (mI M 75 27)) + l4))), vR 75] M Q))) :
    WA X d kc ns m_X11_seekPair 174 [some (vR 75), some (vI l1), none, some (vI l3), some (vI l4), some (vI l5), none] [vI s0] M Q := by
  refine x_istore (L' := [some (vR _), some (vI _), none, some (vI _), some (vI _), some (vI _), some (vI _)]) (tk K_X11_seekPair 96 rfl) rfl (Nat.le_of_ble_eq_true rfl) rfl ?_
  refine x_aload_n (tk K_X11_seekPair 97 rfl) rfl rfl ?_
  refine x_iload (tk K_X11_seekPair 98 rfl) rfl ?_
  refine x_if_eq (t := 201) (tk K_X11_seekPair 99 rfl) rfl (fun hc => ?_) (fun hc => ?_)
  · have h := h.1 hc
    refine x_aload_n (tk K_X11_seekPair 110 rfl) rfl rfl ?_
    refine x_getI (tk K_X11_seekPair 111 rfl) f_X11_414 rfl (RfS.o hS) ?_
    exact h
  · have h := h.2 hc
    refine x_aload_n (tk K_X11_seekPair 100 rfl) rfl rfl ?_
    refine x_getRc (tk K_X11_seekPair 101 rfl) f_X11_50 rfl (RfS.o hS) (RfS.r20 hS) ?_
    refine x_sipush (tk K_X11_seekPair 102 rfl) sp_8000 ?_
    refine x_aload_n (tk K_X11_seekPair 103 rfl) rfl rfl ?_
    refine x_getI (tk K_X11_seekPair 104 rfl) f_X11_285 rfl (RfS.o hS) ?_
    refine x_imul (tk K_X11_seekPair 105 rfl) ?_
    refine x_iload (tk K_X11_seekPair 106 rfl) rfl ?_
    refine x_iadd (tk K_X11_seekPair 107 rfl) ?_
    have hi := h.1
    have h := h.2
    refine x_iald (tk K_X11_seekPair 108 rfl) (RfS.k20 hS) hi ?_
    refine x_goto (t := 205) (tk K_X11_seekPair 109 rfl) rfl ?_
    exact h

theorem b_X11_seekPair_205 {X : Cx} {d kc ns : Nat} {M : Mem} {Q : Option AV → Mem → Prop} {l1 : Int32} {l3 : Int32} {l4 : Int32} {l5 : Int32} {l6 : Int32} {s1 : Int32} (hS : RfS M)
    (h : ∀ M1 : Mem, M1 = sI M 75 41 s1 → ((l6 = nI 0 → WA X d kc ns m_X11_seekPair 223 [some (vR 75), some (vI l1), none, some (vI l3), some (vI l4), none, none] [vI (mI M1 75 40), vR 75] M1 Q) ∧ (¬ l6 = nI 0 → WA X d kc ns m_X11_seekPair 223 [some (vR 75), some (vI l1), none, some (vI l3), some (vI l4), none, none] [vI l5, vR 75] M1 Q))) :
    WA X d kc ns m_X11_seekPair 205 [some (vR 75), some (vI l1), none, some (vI l3), some (vI l4), some (vI l5), some (vI l6)] [vI s1, vR 75] M Q := by
  have h := h _ rfl
  refine x_putI (tk K_X11_seekPair 112 rfl) f_X11_414 rfl (Or.inl rfl) (RfS.o hS) ?_
  refine x_aload_n (tk K_X11_seekPair 113 rfl) rfl rfl ?_
  refine x_iload (tk K_X11_seekPair 114 rfl) rfl ?_
  refine x_if_eq (t := 219) (tk K_X11_seekPair 115 rfl) rfl (fun hc => ?_) (fun hc => ?_)
  · have h := h.1 hc
    refine x_aload_n (tk K_X11_seekPair 118 rfl) rfl rfl ?_
    refine x_getI (tk K_X11_seekPair 119 rfl) f_X11_411 rfl (RfS.o hS) ?_
    refine x_msk [true, true, false, true, true, false, false] ?_
    exact h
  · have h := h.2 hc
    refine x_iload (tk K_X11_seekPair 116 rfl) rfl ?_
    refine x_goto (t := 223) (tk K_X11_seekPair 117 rfl) rfl ?_
    refine x_msk [true, true, false, true, true, false, false] ?_
    exact h

theorem b_X11_seekPair_223 {X : Cx} {d kc ns : Nat} {M : Mem} {Q : Option AV → Mem → Prop} {l1 : Int32} {l3 : Int32} {l4 : Int32} {s1 : Int32} (hS : RfS M) (hd : 1 ≤ d)
    (h : ∀ M1 : Mem, M1 = sI M 75 40 s1 → vp_in l4 8000 ∧ Cl X (d - 1) 0 0 m_X11_better [vI l3, vI (mI M1 96 (ix l4)), vI l1] M1 (fun r M2 => ∃ x1 : Int32, r = some (vI x1) ∧ Ext M1 M2 ∧ WA X d kc ns m_X11_seekPair 114 [some (vR 75), some (vI l1), none, some (vI x1), some (vI (l4 + (-1))), none, none] [] M2 Q)) :
    WA X d kc ns m_X11_seekPair 223 [some (vR 75), some (vI l1), none, some (vI l3), some (vI l4), none, none] [vI s1, vR 75] M Q := by
  have h := h _ rfl
  refine x_putI (tk K_X11_seekPair 120 rfl) f_X11_411 rfl (Or.inl rfl) (RfS.o hS) ?_
  refine x_iload_n (tk K_X11_seekPair 121 rfl) rfl rfl ?_
  refine x_aload_n (tk K_X11_seekPair 122 rfl) rfl rfl ?_
  refine x_getRc (tk K_X11_seekPair 123 rfl) f_X11_72 rfl (RfS.o hS) (RfS.r45 hS) ?_
  refine x_iload (tk K_X11_seekPair 124 rfl) rfl ?_
  have hi := h.1
  have h := h.2
  refine x_iald (tk K_X11_seekPair 125 rfl) (RfS.k45 hS) hi ?_
  refine x_iload_n (tk K_X11_seekPair 126 rfl) rfl rfl ?_
  refine x_callS0 (As := [vI _, vI _, vI _]) (S := []) (tk K_X11_seekPair 127 rfl) mk_X11_375 mo_X11_better rfl rfl (Nat.le_of_ble_eq_true rfl) hd h (fun r M2 hq => ?_)
  obtain ⟨x1, rfl, hE, h⟩ := hq
  have hT0 := RfS.ext hS hE
  have hT1 := hE.1 _ _ _ (RfS.k45 hS)
  refine x_istore_n (L' := [some (vR _), some (vI _), none, some (vI _), some (vI _), none, none]) (tk K_X11_seekPair 128 rfl) rfl rfl (Nat.le_of_ble_eq_true rfl) rfl ?_
  refine x_iincW (L' := [some (vR _), some (vI _), none, some (vI _), some (vI _), none, none]) (tk K_X11_seekPair 129 rfl) rfl ic_m1 rfl (Nat.le_of_ble_eq_true rfl) rfl ?_
  refine x_goto (t := 114) (tk K_X11_seekPair 130 rfl) rfl ?_
  exact h

theorem e_X11_seekPair {X : Cx} {d kc ns : Nat} {M : Mem} {Q : Option AV → Mem → Prop} {a1 : Int32} (h : WA X d kc ns m_X11_seekPair 0 [some (vR 75), some (vI a1), none, none, none, none, none] [] M Q) : Cl X d kc ns m_X11_seekPair [vR 75, vI a1] M Q := Cl.intro (k := 5) (by decide) rfl rfl h

-- TwoPencilsModel.valueNow()I
theorem b_X11_valueNow_0 {X : Cx} {d kc ns : Nat} {M : Mem} {Q : Option AV → Mem → Prop} (hS : RfS M) (hd : 1 ≤ d)
    (h : (((mI M 75 29) ≤ (nI 7) → Cl X (d - 1) 0 0 m_X11_seekBest [vR 75] M (fun r M1 => ∃ x1 : Int32, r = some (vI x1) ∧ Ext M M1 ∧ Cl X (d - 1) 0 0 m_X11_keptWorth [vR 75] M1 (fun r M2 => ∃ x2 : Int32, r = some (vI x2) ∧ Ext M1 M2 ∧ ((¬ x1 = (-1) → Q (some (vI (x2 + (mI M2 75 40)))) M2) ∧ (x1 = (-1) → Q (some (vI (x2 + (nI 0)))) M2))))) ∧ (¬ (mI M 75 29) ≤ (nI 7) → Cl X (d - 1) 0 0 m_X11_keptWorth [vR 75] M (fun r M3 => ∃ x3 : Int32, r = some (vI x3) ∧ Ext M M3 ∧ Q (some (vI x3)) M3)))) :
    WA X d kc ns m_X11_valueNow 0 [some (vR 75), none] [] M Q := by
  refine x_aload_n (tk K_X11_valueNow 0 rfl) rfl rfl ?_
  refine x_getI (tk K_X11_valueNow 1 rfl) f_X11_300 rfl (RfS.o hS) ?_
  refine x_bipush (tk K_X11_valueNow 2 rfl) bp_7 ?_
  refine x_icmp_le (t := 14) (tk K_X11_valueNow 3 rfl) rfl (fun hc => ?_) (fun hc => ?_)
  · have h := h.1 hc
    refine x_aload_n (tk K_X11_valueNow 7 rfl) rfl rfl ?_
    refine x_callV0 (As := []) (S := []) (tk K_X11_valueNow 8 rfl) mk_X11_433 mo_X11_seekBest (RfS.o hS) rfl rfl (Nat.le_of_ble_eq_true rfl) hd h (fun r M1 hq => ?_)
    obtain ⟨x1, rfl, hE, h⟩ := hq
    have hT0 := RfS.ext hS hE
    refine x_istore_n (L' := [some (vR _), some (vI _)]) (tk K_X11_valueNow 9 rfl) rfl rfl (Nat.le_of_ble_eq_true rfl) rfl ?_
    refine x_aload_n (tk K_X11_valueNow 10 rfl) rfl rfl ?_
    refine x_callV0 (As := []) (S := []) (tk K_X11_valueNow 11 rfl) mk_X11_430 mo_X11_keptWorth (RfS.o hT0) rfl rfl (Nat.le_of_ble_eq_true rfl) hd h (fun r M2 hq => ?_)
    obtain ⟨x2, rfl, hE, h⟩ := hq
    have hT1 := RfS.ext hT0 hE
    refine x_iload_n (tk K_X11_valueNow 12 rfl) rfl rfl ?_
    refine x_iconst (tk K_X11_valueNow 13 rfl) ic_m1 ?_
    refine x_icmp_ne (t := 32) (tk K_X11_valueNow 14 rfl) rfl (fun hc => ?_) (fun hc => ?_)
    · have h := h.1 hc
      refine x_aload_n (tk K_X11_valueNow 17 rfl) rfl rfl ?_
      refine x_getI (tk K_X11_valueNow 18 rfl) f_X11_411 rfl (RfS.o hT1) ?_
      refine x_iadd (tk K_X11_valueNow 19 rfl) ?_
      exact x_ireturn (tk K_X11_valueNow 20 rfl) rfl rfl h
    · have h := h.2 hc
      refine x_iconst (tk K_X11_valueNow 15 rfl) ic_0 ?_
      refine x_goto (t := 36) (tk K_X11_valueNow 16 rfl) rfl ?_
      refine x_iadd (tk K_X11_valueNow 19 rfl) ?_
      exact x_ireturn (tk K_X11_valueNow 20 rfl) rfl rfl h
  · have h := h.2 hc
    refine x_aload_n (tk K_X11_valueNow 4 rfl) rfl rfl ?_
    refine x_callV0 (As := []) (S := []) (tk K_X11_valueNow 5 rfl) mk_X11_430 mo_X11_keptWorth (RfS.o hS) rfl rfl (Nat.le_of_ble_eq_true rfl) hd h (fun r M3 hq => ?_)
    obtain ⟨x3, rfl, hE, h⟩ := hq
    have hT2 := RfS.ext hS hE
    exact x_ireturn (tk K_X11_valueNow 6 rfl) rfl rfl h

theorem e_X11_valueNow {X : Cx} {d kc ns : Nat} {M : Mem} {Q : Option AV → Mem → Prop} (h : WA X d kc ns m_X11_valueNow 0 [some (vR 75), none] [] M Q) : Cl X d kc ns m_X11_valueNow [vR 75] M Q := Cl.intro (k := 1) (by decide) rfl rfl h

-- TwoPencilsModel.isGame(I)Z
theorem b_X11_isGame_0 {X : Cx} {d kc ns : Nat} {M : Mem} {Q : Option AV → Mem → Prop} {l1 : Int32} (hS : RfS M) (hd : 1 ≤ d)
    (h : Cl X (d - 1) 0 0 m_X11_in [vI l1, vI (nI 0), vI ((mI M 75 51) - (nI 1))] M (fun r M1 => ∃ x1 : Int32, r = some (vI x1) ∧ Ext M M1 ∧ (isB x1 ∧ Q (some (vI x1)) M1))) :
    WA X d kc ns m_X11_isGame 0 [some (vR 75), some (vI l1)] [] M Q := by
  refine x_iload_n (tk K_X11_isGame 0 rfl) rfl rfl ?_
  refine x_iconst (tk K_X11_isGame 1 rfl) ic_0 ?_
  refine x_aload_n (tk K_X11_isGame 2 rfl) rfl rfl ?_
  refine x_getI (tk K_X11_isGame 3 rfl) f_X11_436 rfl (RfS.o hS) ?_
  refine x_iconst (tk K_X11_isGame 4 rfl) ic_1 ?_
  refine x_isub (tk K_X11_isGame 5 rfl) ?_
  refine x_callS0 (As := [vI _, vI _, vI _]) (S := []) (tk K_X11_isGame 6 rfl) mk_X11_125 mo_X11_in rfl rfl (Nat.le_of_ble_eq_true rfl) hd h (fun r M1 hq => ?_)
  obtain ⟨x1, rfl, hE, h⟩ := hq
  have hT0 := RfS.ext hS hE
  exact x_ireturn (tk K_X11_isGame 7 rfl) rfl (fitZ h.1).1 h.2

theorem e_X11_isGame {X : Cx} {d kc ns : Nat} {M : Mem} {Q : Option AV → Mem → Prop} {a1 : Int32} (h : WA X d kc ns m_X11_isGame 0 [some (vR 75), some (vI a1)] [] M Q) : Cl X d kc ns m_X11_isGame [vR 75, vI a1] M Q := Cl.intro (k := 0) (by decide) rfl rfl h

-- TwoPencilsModel.goThrough(I)V
theorem b_X11_goThrough_0 {X : Cx} {d kc ns : Nat} {M : Mem} {Q : Option AV → Mem → Prop} {l1 : Int32} (hS : RfS M) (hd : 1 ≤ d)
    (h : vp_in l1 8 ∧ vp_in l1 8 ∧ Cl X (d - 1) 0 0 m_X11_startGame [vR 75, vI (mI M 97 (ix l1)), vI (mI M 98 (ix l1)), vI (nI 0)] M (fun r M1 => r = none ∧ Ext M M1 ∧ vp_in ((nI 12) * l1) 96 ∧ ∀ M2 : Mem, M2 = sI M1 75 29 (mI M1 100 (ix ((nI 12) * l1))) → WA X d kc ns m_X11_goThrough 32 [some (vR 75), some (vI l1), some (vI (nI 0))] [] M2 Q)) :
    WA X d kc ns m_X11_goThrough 0 [some (vR 75), some (vI l1), none] [] M Q := by
  refine x_aload_n (tk K_X11_goThrough 0 rfl) rfl rfl ?_
  refine x_aload_n (tk K_X11_goThrough 1 rfl) rfl rfl ?_
  refine x_getRc (tk K_X11_goThrough 2 rfl) f_X11_75 rfl (RfS.o hS) (RfS.r46 hS) ?_
  refine x_iload_n (tk K_X11_goThrough 3 rfl) rfl rfl ?_
  have hi := h.1
  have h := h.2
  refine x_iald (tk K_X11_goThrough 4 rfl) (RfS.k46 hS) hi ?_
  refine x_aload_n (tk K_X11_goThrough 5 rfl) rfl rfl ?_
  refine x_getRc (tk K_X11_goThrough 6 rfl) f_X11_78 rfl (RfS.o hS) (RfS.r47 hS) ?_
  refine x_iload_n (tk K_X11_goThrough 7 rfl) rfl rfl ?_
  have hi := h.1
  have h := h.2
  refine x_iald (tk K_X11_goThrough 8 rfl) (RfS.k47 hS) hi ?_
  refine x_iconst (tk K_X11_goThrough 9 rfl) ic_0 ?_
  refine x_callV0 (As := [vI _, vI _, vI _]) (S := []) (tk K_X11_goThrough 10 rfl) mk_X11_439 mo_X11_startGame (RfS.o hS) rfl rfl (Nat.le_of_ble_eq_true rfl) hd h (fun r M1 hq => ?_)
  obtain ⟨rfl, hE, h⟩ := hq
  have hT0 := RfS.ext hS hE
  have hT1 := hE.1 _ _ _ (RfS.k46 hS)
  have hT2 := hE.1 _ _ _ (RfS.k47 hS)
  refine x_aload_n (tk K_X11_goThrough 11 rfl) rfl rfl ?_
  refine x_aload_n (tk K_X11_goThrough 12 rfl) rfl rfl ?_
  refine x_getRc (tk K_X11_goThrough 13 rfl) f_X11_84 rfl (RfS.o hT0) (RfS.r49 hT0) ?_
  refine x_bipush (tk K_X11_goThrough 14 rfl) bp_12 ?_
  refine x_iload_n (tk K_X11_goThrough 15 rfl) rfl rfl ?_
  refine x_imul (tk K_X11_goThrough 16 rfl) ?_
  have hi := h.1
  have h := h.2
  refine x_iald (tk K_X11_goThrough 17 rfl) (RfS.k49 hT0) hi ?_
  have h := h _ rfl
  refine x_putI (tk K_X11_goThrough 18 rfl) f_X11_300 rfl (Or.inl rfl) (RfS.o hT0) ?_
  refine x_iconst (tk K_X11_goThrough 19 rfl) ic_0 ?_
  refine x_istore_n (L' := [some (vR _), some (vI _), some (vI _)]) (tk K_X11_goThrough 20 rfl) rfl rfl (Nat.le_of_ble_eq_true rfl) rfl ?_
  exact h

theorem b_X11_goThrough_32 {X : Cx} {d kc ns : Nat} {M : Mem} {Q : Option AV → Mem → Prop} {l1 : Int32} {l2 : Int32} (hS : RfS M) (hd : 1 ≤ d)
    (h : vp_in l1 8 ∧ (((mI M 101 (ix l1)) ≤ l2 → Q none M) ∧ (¬ (mI M 101 (ix l1)) ≤ l2 → vp_in (((nI 12) * l1) + l2) 96 ∧ vp_in ((((nI 12) * l1) + l2) + (nI 1)) 96 ∧ Cl X (d - 1) 0 0 m_X11_makeMove [vR 75, vI (mI M 99 (ix (((nI 12) * l1) + l2))), vI (mI M 100 (ix ((((nI 12) * l1) + l2) + (nI 1))))] M (fun r M1 => r = none ∧ Ext M M1 ∧ vp_in ((((nI 12) * l1) + l2) + (nI 1)) 96 ∧ ∀ M2 : Mem, M2 = sI M1 75 29 (mI M1 100 (ix ((((nI 12) * l1) + l2) + (nI 1)))) → WA X d kc ns m_X11_goThrough 32 [some (vR 75), some (vI l1), some (vI (l2 + (nI 1)))] [] M2 Q)))) :
    WA X d kc ns m_X11_goThrough 32 [some (vR 75), some (vI l1), some (vI l2)] [] M Q := by
  refine x_iload_n (tk K_X11_goThrough 21 rfl) rfl rfl ?_
  refine x_aload_n (tk K_X11_goThrough 22 rfl) rfl rfl ?_
  refine x_getRc (tk K_X11_goThrough 23 rfl) f_X11_87 rfl (RfS.o hS) (RfS.r50 hS) ?_
  refine x_iload_n (tk K_X11_goThrough 24 rfl) rfl rfl ?_
  have hi := h.1
  have h := h.2
  refine x_iald (tk K_X11_goThrough 25 rfl) (RfS.k50 hS) hi ?_
  refine x_icmp_ge (t := 93) (tk K_X11_goThrough 26 rfl) rfl (fun hc => ?_) (fun hc => ?_)
  · have h := h.1 hc
    exact x_return (tk K_X11_goThrough 61 rfl) rfl h
  · have h := h.2 hc
    refine x_aload_n (tk K_X11_goThrough 27 rfl) rfl rfl ?_
    refine x_aload_n (tk K_X11_goThrough 28 rfl) rfl rfl ?_
    refine x_getRc (tk K_X11_goThrough 29 rfl) f_X11_81 rfl (RfS.o hS) (RfS.r48 hS) ?_
    refine x_bipush (tk K_X11_goThrough 30 rfl) bp_12 ?_
    refine x_iload_n (tk K_X11_goThrough 31 rfl) rfl rfl ?_
    refine x_imul (tk K_X11_goThrough 32 rfl) ?_
    refine x_iload_n (tk K_X11_goThrough 33 rfl) rfl rfl ?_
    refine x_iadd (tk K_X11_goThrough 34 rfl) ?_
    have hi := h.1
    have h := h.2
    refine x_iald (tk K_X11_goThrough 35 rfl) (RfS.k48 hS) hi ?_
    refine x_aload_n (tk K_X11_goThrough 36 rfl) rfl rfl ?_
    refine x_getRc (tk K_X11_goThrough 37 rfl) f_X11_84 rfl (RfS.o hS) (RfS.r49 hS) ?_
    refine x_bipush (tk K_X11_goThrough 38 rfl) bp_12 ?_
    refine x_iload_n (tk K_X11_goThrough 39 rfl) rfl rfl ?_
    refine x_imul (tk K_X11_goThrough 40 rfl) ?_
    refine x_iload_n (tk K_X11_goThrough 41 rfl) rfl rfl ?_
    refine x_iadd (tk K_X11_goThrough 42 rfl) ?_
    refine x_iconst (tk K_X11_goThrough 43 rfl) ic_1 ?_
    refine x_iadd (tk K_X11_goThrough 44 rfl) ?_
    have hi := h.1
    have h := h.2
    refine x_iald (tk K_X11_goThrough 45 rfl) (RfS.k49 hS) hi ?_
    refine x_callV0 (As := [vI _, vI _]) (S := []) (tk K_X11_goThrough 46 rfl) mk_X11_442 mo_X11_makeMove (RfS.o hS) rfl rfl (Nat.le_of_ble_eq_true rfl) hd h (fun r M1 hq => ?_)
    obtain ⟨rfl, hE, h⟩ := hq
    have hT0 := RfS.ext hS hE
    have hT1 := hE.1 _ _ _ (RfS.k50 hS)
    have hT2 := hE.1 _ _ _ (RfS.k48 hS)
    have hT3 := hE.1 _ _ _ (RfS.k49 hS)
    refine x_aload_n (tk K_X11_goThrough 47 rfl) rfl rfl ?_
    refine x_aload_n (tk K_X11_goThrough 48 rfl) rfl rfl ?_
    refine x_getRc (tk K_X11_goThrough 49 rfl) f_X11_84 rfl (RfS.o hT0) (RfS.r49 hT0) ?_
    refine x_bipush (tk K_X11_goThrough 50 rfl) bp_12 ?_
    refine x_iload_n (tk K_X11_goThrough 51 rfl) rfl rfl ?_
    refine x_imul (tk K_X11_goThrough 52 rfl) ?_
    refine x_iload_n (tk K_X11_goThrough 53 rfl) rfl rfl ?_
    refine x_iadd (tk K_X11_goThrough 54 rfl) ?_
    refine x_iconst (tk K_X11_goThrough 55 rfl) ic_1 ?_
    refine x_iadd (tk K_X11_goThrough 56 rfl) ?_
    have hi := h.1
    have h := h.2
    refine x_iald (tk K_X11_goThrough 57 rfl) (RfS.k49 hT0) hi ?_
    have h := h _ rfl
    refine x_putI (tk K_X11_goThrough 58 rfl) f_X11_300 rfl (Or.inl rfl) (RfS.o hT0) ?_
    refine x_iincW (L' := [some (vR _), some (vI _), some (vI _)]) (tk K_X11_goThrough 59 rfl) rfl ic_1 rfl (Nat.le_of_ble_eq_true rfl) rfl ?_
    refine x_goto (t := 32) (tk K_X11_goThrough 60 rfl) rfl ?_
    exact h

theorem e_X11_goThrough {X : Cx} {d kc ns : Nat} {M : Mem} {Q : Option AV → Mem → Prop} {a1 : Int32} (h : WA X d kc ns m_X11_goThrough 0 [some (vR 75), some (vI a1), none] [] M Q) : Cl X d kc ns m_X11_goThrough [vR 75, vI a1] M Q := Cl.intro (k := 1) (by decide) rfl rfl h

-- TwoPencilsModel.vote(IIII)Z
theorem b_X11_vote_0 {X : Cx} {d kc ns : Nat} {M : Mem} {Q : Option AV → Mem → Prop} {l1 : Int32} {l2 : Int32} {l3 : Int32} {l4 : Int32} (hS : RfS M) (hd : 1 ≤ d)
    (h : Cl X (d - 1) 0 0 m_X11_isParish [vR 75, vI l1, vI l2] M (fun r M1 => ∃ x1 : Int32, r = some (vI x1) ∧ Ext M M1 ∧ ((x1 = nI 0 → Q (some (vI (nI 0))) M1) ∧ (¬ x1 = nI 0 → Cl X (d - 1) 0 0 m_X11_isParty [vI l3] M1 (fun r M2 => ∃ x2 : Int32, r = some (vI x2) ∧ Ext M1 M2 ∧ ((x2 = nI 0 → Q (some (vI (nI 0))) M2) ∧ (¬ x2 = nI 0 → Cl X (d - 1) 0 0 m_X11_in [vI l4, vI (nI 0), vI (nI 99)] M2 (fun r M3 => ∃ x3 : Int32, r = some (vI x3) ∧ Ext M2 M3 ∧ ((¬ x3 = nI 0 → WA X d kc ns m_X11_vote 32 [some (vR 75), some (vI l1), some (vI l2), some (vI l3), some (vI l4), some (vI (nI 0))] [] M3 Q) ∧ (x3 = nI 0 → Q (some (vI (nI 0))) M3)))))))))) :
    WA X d kc ns m_X11_vote 0 [some (vR 75), some (vI l1), some (vI l2), some (vI l3), some (vI l4), none] [] M Q := by
  refine x_aload_n (tk K_X11_vote 0 rfl) rfl rfl ?_
  refine x_iload_n (tk K_X11_vote 1 rfl) rfl rfl ?_
  refine x_iload_n (tk K_X11_vote 2 rfl) rfl rfl ?_
  refine x_callV0 (As := [vI _, vI _]) (S := []) (tk K_X11_vote 3 rfl) mk_X11_174 mo_X11_isParish (RfS.o hS) rfl rfl (Nat.le_of_ble_eq_true rfl) hd h (fun r M1 hq => ?_)
  obtain ⟨x1, rfl, hE, h⟩ := hq
  have hT0 := RfS.ext hS hE
  refine x_if_eq (t := 27) (tk K_X11_vote 4 rfl) rfl (fun hc => ?_) (fun hc => ?_)
  · have h := h.1 hc
    refine x_iconst (tk K_X11_vote 13 rfl) ic_0 ?_
    exact x_ireturn (tk K_X11_vote 14 rfl) rfl (fitZ (Or.inl rfl)).1 h
  · have h := h.2 hc
    refine x_iload_n (tk K_X11_vote 5 rfl) rfl rfl ?_
    refine x_callS0 (As := [vI _]) (S := []) (tk K_X11_vote 6 rfl) mk_X11_227 mo_X11_isParty rfl rfl (Nat.le_of_ble_eq_true rfl) hd h (fun r M2 hq => ?_)
    obtain ⟨x2, rfl, hE, h⟩ := hq
    have hT1 := RfS.ext hT0 hE
    refine x_if_eq (t := 27) (tk K_X11_vote 7 rfl) rfl (fun hc => ?_) (fun hc => ?_)
    · have h := h.1 hc
      refine x_iconst (tk K_X11_vote 13 rfl) ic_0 ?_
      exact x_ireturn (tk K_X11_vote 14 rfl) rfl (fitZ (Or.inl rfl)).1 h
    · have h := h.2 hc
      refine x_iload (tk K_X11_vote 8 rfl) rfl ?_
      refine x_iconst (tk K_X11_vote 9 rfl) ic_0 ?_
      refine x_bipush (tk K_X11_vote 10 rfl) bp_99 ?_
      refine x_callS0 (As := [vI _, vI _, vI _]) (S := []) (tk K_X11_vote 11 rfl) mk_X11_125 mo_X11_in rfl rfl (Nat.le_of_ble_eq_true rfl) hd h (fun r M3 hq => ?_)
      obtain ⟨x3, rfl, hE, h⟩ := hq
      have hT2 := RfS.ext hT1 hE
      refine x_if_ne (t := 29) (tk K_X11_vote 12 rfl) rfl (fun hc => ?_) (fun hc => ?_)
      · have h := h.1 hc
        refine x_iconst (tk K_X11_vote 15 rfl) ic_0 ?_
        refine x_istore (L' := [some (vR _), some (vI _), some (vI _), some (vI _), some (vI _), some (vI _)]) (tk K_X11_vote 16 rfl) rfl (Nat.le_of_ble_eq_true rfl) rfl ?_
        exact h
      · have h := h.2 hc
        refine x_iconst (tk K_X11_vote 13 rfl) ic_0 ?_
        exact x_ireturn (tk K_X11_vote 14 rfl) rfl (fitZ (Or.inl rfl)).1 h

theorem b_X11_vote_32 {X : Cx} {d kc ns : Nat} {M : Mem} {Q : Option AV → Mem → Prop} {l1 : Int32} {l2 : Int32} {l3 : Int32} {l4 : Int32} {l5 : Int32} (hS : RfS M) (hd : 1 ≤ d)
    (h : (((mI M 75 51) ≤ l5 → Cl X (d - 1) 0 0 m_X11_voteAt [vI l1, vI l2, vI l3] M (fun r M1 => ∃ x1 : Int32, r = some (vI x1) ∧ Ext M M1 ∧ vp_in x1 189 ∧ ∀ M2 : Mem, M2 = sI M1 81 (ix x1) l4 → Q (some (vI (nI 1))) M2)) ∧ (¬ (mI M 75 51) ≤ l5 → vp_in l5 8 ∧ ((¬ (mI M 97 (ix l5)) = l1 → WA X d kc ns m_X11_vote 32 [some (vR 75), some (vI l1), some (vI l2), some (vI l3), some (vI l4), some (vI (l5 + (nI 1)))] [] M Q) ∧ ((mI M 97 (ix l5)) = l1 → Q (some (vI (nI 0))) M))))) :
    WA X d kc ns m_X11_vote 32 [some (vR 75), some (vI l1), some (vI l2), some (vI l3), some (vI l4), some (vI l5)] [] M Q := by
  refine x_iload (tk K_X11_vote 17 rfl) rfl ?_
  refine x_aload_n (tk K_X11_vote 18 rfl) rfl rfl ?_
  refine x_getI (tk K_X11_vote 19 rfl) f_X11_436 rfl (RfS.o hS) ?_
  refine x_icmp_ge (t := 60) (tk K_X11_vote 20 rfl) rfl (fun hc => ?_) (fun hc => ?_)
  · have h := h.1 hc
    refine x_aload_n (tk K_X11_vote 31 rfl) rfl rfl ?_
    refine x_getRc (tk K_X11_vote 32 rfl) f_X11_25 rfl (RfS.o hS) (RfS.r9 hS) ?_
    refine x_iload_n (tk K_X11_vote 33 rfl) rfl rfl ?_
    refine x_iload_n (tk K_X11_vote 34 rfl) rfl rfl ?_
    refine x_iload_n (tk K_X11_vote 35 rfl) rfl rfl ?_
    refine x_callS0 (As := [vI _, vI _, vI _]) (S := [vR _]) (tk K_X11_vote 36 rfl) mk_X11_129 mo_X11_voteAt rfl rfl (Nat.le_of_ble_eq_true rfl) hd h (fun r M1 hq => ?_)
    obtain ⟨x1, rfl, hE, h⟩ := hq
    have hT0 := RfS.ext hS hE
    have hT1 := hE.1 _ _ _ (RfS.k9 hS)
    refine x_iload (tk K_X11_vote 37 rfl) rfl ?_
    have hi := h.1
    have h := h.2
    have h := h _ rfl
    refine x_iast (tk K_X11_vote 38 rfl) hT1 hi ?_
    refine x_iconst (tk K_X11_vote 39 rfl) ic_1 ?_
    exact x_ireturn (tk K_X11_vote 40 rfl) rfl (fitZ (Or.inr rfl)).1 h
  · have h := h.2 hc
    refine x_aload_n (tk K_X11_vote 21 rfl) rfl rfl ?_
    refine x_getRc (tk K_X11_vote 22 rfl) f_X11_75 rfl (RfS.o hS) (RfS.r46 hS) ?_
    refine x_iload (tk K_X11_vote 23 rfl) rfl ?_
    have hi := h.1
    have h := h.2
    refine x_iald (tk K_X11_vote 24 rfl) (RfS.k46 hS) hi ?_
    refine x_iload_n (tk K_X11_vote 25 rfl) rfl rfl ?_
    refine x_icmp_ne (t := 54) (tk K_X11_vote 26 rfl) rfl (fun hc => ?_) (fun hc => ?_)
    · have h := h.1 hc
      refine x_iincW (L' := [some (vR _), some (vI _), some (vI _), some (vI _), some (vI _), some (vI _)]) (tk K_X11_vote 29 rfl) rfl ic_1 rfl (Nat.le_of_ble_eq_true rfl) rfl ?_
      refine x_goto (t := 32) (tk K_X11_vote 30 rfl) rfl ?_
      exact h
    · have h := h.2 hc
      refine x_iconst (tk K_X11_vote 27 rfl) ic_0 ?_
      exact x_ireturn (tk K_X11_vote 28 rfl) rfl (fitZ (Or.inl rfl)).1 h

theorem e_X11_vote {X : Cx} {d kc ns : Nat} {M : Mem} {Q : Option AV → Mem → Prop} {a1 : Int32} {a2 : Int32} {a3 : Int32} {a4 : Int32} (h : WA X d kc ns m_X11_vote 0 [some (vR 75), some (vI a1), some (vI a2), some (vI a3), some (vI a4), none] [] M Q) : Cl X d kc ns m_X11_vote [vR 75, vI a1, vI a2, vI a3, vI a4] M Q := Cl.intro (k := 1) (by decide) rfl rfl h

-- TwoPencilsModel.game(II)I
theorem b_X11_game_0 {X : Cx} {d kc ns : Nat} {M : Mem} {Q : Option AV → Mem → Prop} {l1 : Int32} {l2 : Int32} (hS : RfS M) (hd : 1 ≤ d)
    (h : Cl X (d - 1) 0 0 m_X11_isLand [vR 75, vI l1] M (fun r M1 => ∃ x1 : Int32, r = some (vI x1) ∧ Ext M M1 ∧ ((x1 = nI 0 → Q (some (vI (-1))) M1) ∧ (¬ x1 = nI 0 → Cl X (d - 1) 0 0 m_X11_in [vI l2, vI (nI 0), vI ((mI M1 75 16) - (nI 1))] M1 (fun r M2 => ∃ x2 : Int32, r = some (vI x2) ∧ Ext M1 M2 ∧ ((x2 = nI 0 → Q (some (vI (-1))) M2) ∧ (¬ x2 = nI 0 → ((¬ (mI M2 75 51) = (nI 8) → vp_in (mI M2 75 51) 8 ∧ ∀ M3 : Mem, M3 = sI M2 97 (ix (mI M2 75 51)) l1 → vp_in (mI M3 75 51) 8 ∧ ∀ M4 : Mem, M4 = sI M3 98 (ix (mI M3 75 51)) l2 → vp_in (mI M4 75 51) 8 ∧ ∀ M5 : Mem, M5 = sI M4 101 (ix (mI M4 75 51)) (nI 0) → Cl X (d - 1) 0 0 m_X11_startGame [vR 75, vI l1, vI l2, vI (nI 0)] M5 (fun r M6 => r = none ∧ Ext M5 M6 ∧ vp_in ((nI 12) * (mI M6 75 51)) 96 ∧ ∀ M7 : Mem, M7 = sI M6 100 (ix ((nI 12) * (mI M6 75 51))) (mI M6 75 29) → ∀ M8 : Mem, M8 = sI M7 75 51 ((mI M7 75 51) + (nI 1)) → Q (some (vI ((mI M8 75 51) - (nI 1)))) M8)) ∧ ((mI M2 75 51) = (nI 8) → Q (some (vI (-1))) M2))))))))) :
    WA X d kc ns m_X11_game 0 [some (vR 75), some (vI l1), some (vI l2)] [] M Q := by
  refine x_aload_n (tk K_X11_game 0 rfl) rfl rfl ?_
  refine x_iload_n (tk K_X11_game 1 rfl) rfl rfl ?_
  refine x_callV0 (As := [vI _]) (S := []) (tk K_X11_game 2 rfl) mk_X11_168 mo_X11_isLand (RfS.o hS) rfl rfl (Nat.le_of_ble_eq_true rfl) hd h (fun r M1 hq => ?_)
  obtain ⟨x1, rfl, hE, h⟩ := hq
  have hT0 := RfS.ext hS hE
  refine x_if_eq (t := 31) (tk K_X11_game 3 rfl) rfl (fun hc => ?_) (fun hc => ?_)
  · have h := h.1 hc
    refine x_iconst (tk K_X11_game 16 rfl) ic_m1 ?_
    exact x_ireturn (tk K_X11_game 17 rfl) rfl rfl h
  · have h := h.2 hc
    refine x_iload_n (tk K_X11_game 4 rfl) rfl rfl ?_
    refine x_iconst (tk K_X11_game 5 rfl) ic_0 ?_
    refine x_aload_n (tk K_X11_game 6 rfl) rfl rfl ?_
    refine x_getI (tk K_X11_game 7 rfl) f_X11_165 rfl (RfS.o hT0) ?_
    refine x_iconst (tk K_X11_game 8 rfl) ic_1 ?_
    refine x_isub (tk K_X11_game 9 rfl) ?_
    refine x_callS0 (As := [vI _, vI _, vI _]) (S := []) (tk K_X11_game 10 rfl) mk_X11_125 mo_X11_in rfl rfl (Nat.le_of_ble_eq_true rfl) hd h (fun r M2 hq => ?_)
    obtain ⟨x2, rfl, hE, h⟩ := hq
    have hT1 := RfS.ext hT0 hE
    refine x_if_eq (t := 31) (tk K_X11_game 11 rfl) rfl (fun hc => ?_) (fun hc => ?_)
    · have h := h.1 hc
      refine x_iconst (tk K_X11_game 16 rfl) ic_m1 ?_
      exact x_ireturn (tk K_X11_game 17 rfl) rfl rfl h
    · have h := h.2 hc
      refine x_aload_n (tk K_X11_game 12 rfl) rfl rfl ?_
      refine x_getI (tk K_X11_game 13 rfl) f_X11_436 rfl (RfS.o hT1) ?_
      refine x_bipush (tk K_X11_game 14 rfl) bp_8 ?_
      refine x_icmp_ne (t := 33) (tk K_X11_game 15 rfl) rfl (fun hc => ?_) (fun hc => ?_)
      · have h := h.1 hc
        refine x_aload_n (tk K_X11_game 18 rfl) rfl rfl ?_
        refine x_getRc (tk K_X11_game 19 rfl) f_X11_75 rfl (RfS.o hT1) (RfS.r46 hT1) ?_
        refine x_aload_n (tk K_X11_game 20 rfl) rfl rfl ?_
        refine x_getI (tk K_X11_game 21 rfl) f_X11_436 rfl (RfS.o hT1) ?_
        refine x_iload_n (tk K_X11_game 22 rfl) rfl rfl ?_
        have hi := h.1
        have h := h.2
        have h := h _ rfl
        refine x_iast (tk K_X11_game 23 rfl) (RfS.k46 hT1) hi ?_
        refine x_aload_n (tk K_X11_game 24 rfl) rfl rfl ?_
        refine x_getRc (tk K_X11_game 25 rfl) f_X11_78 rfl (RfS.o hT1) (RfS.r47 hT1) ?_
        refine x_aload_n (tk K_X11_game 26 rfl) rfl rfl ?_
        refine x_getI (tk K_X11_game 27 rfl) f_X11_436 rfl (RfS.o hT1) ?_
        refine x_iload_n (tk K_X11_game 28 rfl) rfl rfl ?_
        have hi := h.1
        have h := h.2
        have h := h _ rfl
        refine x_iast (tk K_X11_game 29 rfl) (RfS.k47 hT1) hi ?_
        refine x_aload_n (tk K_X11_game 30 rfl) rfl rfl ?_
        refine x_getRc (tk K_X11_game 31 rfl) f_X11_87 rfl (RfS.o hT1) (RfS.r50 hT1) ?_
        refine x_aload_n (tk K_X11_game 32 rfl) rfl rfl ?_
        refine x_getI (tk K_X11_game 33 rfl) f_X11_436 rfl (RfS.o hT1) ?_
        refine x_iconst (tk K_X11_game 34 rfl) ic_0 ?_
        have hi := h.1
        have h := h.2
        have h := h _ rfl
        refine x_iast (tk K_X11_game 35 rfl) (RfS.k50 hT1) hi ?_
        refine x_aload_n (tk K_X11_game 36 rfl) rfl rfl ?_
        refine x_iload_n (tk K_X11_game 37 rfl) rfl rfl ?_
        refine x_iload_n (tk K_X11_game 38 rfl) rfl rfl ?_
        refine x_iconst (tk K_X11_game 39 rfl) ic_0 ?_
        refine x_callV0 (As := [vI _, vI _, vI _]) (S := []) (tk K_X11_game 40 rfl) mk_X11_439 mo_X11_startGame (RfS.o hT1) rfl rfl (Nat.le_of_ble_eq_true rfl) hd h (fun r M6 hq => ?_)
        obtain ⟨rfl, hE, h⟩ := hq
        have hT2 := RfS.ext hT1 hE
        have hT3 := hE.1 _ _ _ (RfS.k46 hT1)
        have hT4 := hE.1 _ _ _ (RfS.k47 hT1)
        have hT5 := hE.1 _ _ _ (RfS.k50 hT1)
        refine x_aload_n (tk K_X11_game 41 rfl) rfl rfl ?_
        refine x_getRc (tk K_X11_game 42 rfl) f_X11_84 rfl (RfS.o hT2) (RfS.r49 hT2) ?_
        refine x_bipush (tk K_X11_game 43 rfl) bp_12 ?_
        refine x_aload_n (tk K_X11_game 44 rfl) rfl rfl ?_
        refine x_getI (tk K_X11_game 45 rfl) f_X11_436 rfl (RfS.o hT2) ?_
        refine x_imul (tk K_X11_game 46 rfl) ?_
        refine x_aload_n (tk K_X11_game 47 rfl) rfl rfl ?_
        refine x_getI (tk K_X11_game 48 rfl) f_X11_300 rfl (RfS.o hT2) ?_
        have hi := h.1
        have h := h.2
        have h := h _ rfl
        refine x_iast (tk K_X11_game 49 rfl) (RfS.k49 hT2) hi ?_
        refine x_aload_n (tk K_X11_game 50 rfl) rfl rfl ?_
        refine x_dup (tk K_X11_game 51 rfl) rfl ?_
        refine x_getI (tk K_X11_game 52 rfl) f_X11_436 rfl (RfS.o hT2) ?_
        refine x_iconst (tk K_X11_game 53 rfl) ic_1 ?_
        refine x_iadd (tk K_X11_game 54 rfl) ?_
        have h := h _ rfl
        refine x_putI (tk K_X11_game 55 rfl) f_X11_436 rfl (Or.inl rfl) (RfS.o hT2) ?_
        refine x_aload_n (tk K_X11_game 56 rfl) rfl rfl ?_
        refine x_getI (tk K_X11_game 57 rfl) f_X11_436 rfl (RfS.o hT2) ?_
        refine x_iconst (tk K_X11_game 58 rfl) ic_1 ?_
        refine x_isub (tk K_X11_game 59 rfl) ?_
        exact x_ireturn (tk K_X11_game 60 rfl) rfl rfl h
      · have h := h.2 hc
        refine x_iconst (tk K_X11_game 16 rfl) ic_m1 ?_
        exact x_ireturn (tk K_X11_game 17 rfl) rfl rfl h

theorem e_X11_game {X : Cx} {d kc ns : Nat} {M : Mem} {Q : Option AV → Mem → Prop} {a1 : Int32} {a2 : Int32} (h : WA X d kc ns m_X11_game 0 [some (vR 75), some (vI a1), some (vI a2)] [] M Q) : Cl X d kc ns m_X11_game [vR 75, vI a1, vI a2] M Q := Cl.intro (k := 0) (by decide) rfl rfl h

-- TwoPencilsModel.phase(I)I
theorem b_X11_phase_0 {X : Cx} {d kc ns : Nat} {M : Mem} {Q : Option AV → Mem → Prop} {l1 : Int32} (hS : RfS M) (hd : 1 ≤ d)
    (h : Cl X (d - 1) 0 0 m_X11_isGame [vR 75, vI l1] M (fun r M1 => ∃ x1 : Int32, r = some (vI x1) ∧ Ext M M1 ∧ ((¬ x1 = nI 0 → Cl X (d - 1) 0 0 m_X11_goThrough [vR 75, vI l1] M1 (fun r M2 => r = none ∧ Ext M1 M2 ∧ Q (some (vI (mI M2 75 29))) M2)) ∧ (x1 = nI 0 → Q (some (vI (-1))) M1)))) :
    WA X d kc ns m_X11_phase 0 [some (vR 75), some (vI l1)] [] M Q := by
  refine x_aload_n (tk K_X11_phase 0 rfl) rfl rfl ?_
  refine x_iload_n (tk K_X11_phase 1 rfl) rfl rfl ?_
  refine x_callV0 (As := [vI _]) (S := []) (tk K_X11_phase 2 rfl) mk_X11_445 mo_X11_isGame (RfS.o hS) rfl rfl (Nat.le_of_ble_eq_true rfl) hd h (fun r M1 hq => ?_)
  obtain ⟨x1, rfl, hE, h⟩ := hq
  have hT0 := RfS.ext hS hE
  refine x_if_ne (t := 10) (tk K_X11_phase 3 rfl) rfl (fun hc => ?_) (fun hc => ?_)
  · have h := h.1 hc
    refine x_aload_n (tk K_X11_phase 6 rfl) rfl rfl ?_
    refine x_iload_n (tk K_X11_phase 7 rfl) rfl rfl ?_
    refine x_callV0 (As := [vI _]) (S := []) (tk K_X11_phase 8 rfl) mk_X11_448 mo_X11_goThrough (RfS.o hT0) rfl rfl (Nat.le_of_ble_eq_true rfl) hd h (fun r M2 hq => ?_)
    obtain ⟨rfl, hE, h⟩ := hq
    have hT1 := RfS.ext hT0 hE
    refine x_aload_n (tk K_X11_phase 9 rfl) rfl rfl ?_
    refine x_getI (tk K_X11_phase 10 rfl) f_X11_300 rfl (RfS.o hT1) ?_
    exact x_ireturn (tk K_X11_phase 11 rfl) rfl rfl h
  · have h := h.2 hc
    refine x_iconst (tk K_X11_phase 4 rfl) ic_m1 ?_
    exact x_ireturn (tk K_X11_phase 5 rfl) rfl rfl h

theorem e_X11_phase {X : Cx} {d kc ns : Nat} {M : Mem} {Q : Option AV → Mem → Prop} {a1 : Int32} (h : WA X d kc ns m_X11_phase 0 [some (vR 75), some (vI a1)] [] M Q) : Cl X d kc ns m_X11_phase [vR 75, vI a1] M Q := Cl.intro (k := 0) (by decide) rfl rfl h

-- TwoPencilsModel.turn(I)I
theorem b_X11_turn_0 {X : Cx} {d kc ns : Nat} {M : Mem} {Q : Option AV → Mem → Prop} {l1 : Int32} (hS : RfS M) (hd : 1 ≤ d)
    (h : Cl X (d - 1) 0 0 m_X11_isGame [vR 75, vI l1] M (fun r M1 => ∃ x1 : Int32, r = some (vI x1) ∧ Ext M M1 ∧ ((¬ x1 = nI 0 → Cl X (d - 1) 0 0 m_X11_goThrough [vR 75, vI l1] M1 (fun r M2 => r = none ∧ Ext M1 M2 ∧ (((mI M2 75 29) ≤ (nI 7) → Cl X (d - 1) 0 0 m_X11_mover [vR 75] M2 (fun r M3 => ∃ x2 : Int32, r = some (vI x2) ∧ Ext M2 M3 ∧ Q (some (vI x2)) M3)) ∧ (¬ (mI M2 75 29) ≤ (nI 7) → Q (some (vI (-1))) M2)))) ∧ (x1 = nI 0 → Q (some (vI (-1))) M1)))) :
    WA X d kc ns m_X11_turn 0 [some (vR 75), some (vI l1)] [] M Q := by
  refine x_aload_n (tk K_X11_turn 0 rfl) rfl rfl ?_
  refine x_iload_n (tk K_X11_turn 1 rfl) rfl rfl ?_
  refine x_callV0 (As := [vI _]) (S := []) (tk K_X11_turn 2 rfl) mk_X11_445 mo_X11_isGame (RfS.o hS) rfl rfl (Nat.le_of_ble_eq_true rfl) hd h (fun r M1 hq => ?_)
  obtain ⟨x1, rfl, hE, h⟩ := hq
  have hT0 := RfS.ext hS hE
  refine x_if_ne (t := 10) (tk K_X11_turn 3 rfl) rfl (fun hc => ?_) (fun hc => ?_)
  · have h := h.1 hc
    refine x_aload_n (tk K_X11_turn 6 rfl) rfl rfl ?_
    refine x_iload_n (tk K_X11_turn 7 rfl) rfl rfl ?_
    refine x_callV0 (As := [vI _]) (S := []) (tk K_X11_turn 8 rfl) mk_X11_448 mo_X11_goThrough (RfS.o hT0) rfl rfl (Nat.le_of_ble_eq_true rfl) hd h (fun r M2 hq => ?_)
    obtain ⟨rfl, hE, h⟩ := hq
    have hT1 := RfS.ext hT0 hE
    refine x_aload_n (tk K_X11_turn 9 rfl) rfl rfl ?_
    refine x_getI (tk K_X11_turn 10 rfl) f_X11_300 rfl (RfS.o hT1) ?_
    refine x_bipush (tk K_X11_turn 11 rfl) bp_7 ?_
    refine x_icmp_le (t := 28) (tk K_X11_turn 12 rfl) rfl (fun hc => ?_) (fun hc => ?_)
    · have h := h.1 hc
      refine x_aload_n (tk K_X11_turn 15 rfl) rfl rfl ?_
      refine x_callV0 (As := []) (S := []) (tk K_X11_turn 16 rfl) mk_X11_408 mo_X11_mover (RfS.o hT1) rfl rfl (Nat.le_of_ble_eq_true rfl) hd h (fun r M3 hq => ?_)
      obtain ⟨x2, rfl, hE, h⟩ := hq
      have hT2 := RfS.ext hT1 hE
      exact x_ireturn (tk K_X11_turn 17 rfl) rfl rfl h
    · have h := h.2 hc
      refine x_iconst (tk K_X11_turn 13 rfl) ic_m1 ?_
      refine x_goto (t := 32) (tk K_X11_turn 14 rfl) rfl ?_
      exact x_ireturn (tk K_X11_turn 17 rfl) rfl rfl h
  · have h := h.2 hc
    refine x_iconst (tk K_X11_turn 4 rfl) ic_m1 ?_
    exact x_ireturn (tk K_X11_turn 5 rfl) rfl rfl h

theorem e_X11_turn {X : Cx} {d kc ns : Nat} {M : Mem} {Q : Option AV → Mem → Prop} {a1 : Int32} (h : WA X d kc ns m_X11_turn 0 [some (vR 75), some (vI a1)] [] M Q) : Cl X d kc ns m_X11_turn [vR 75, vI a1] M Q := Cl.intro (k := 0) (by decide) rfl rfl h

-- TwoPencilsModel.move(II)Z
theorem b_X11_move_0 {X : Cx} {d kc ns : Nat} {M : Mem} {Q : Option AV → Mem → Prop} {l1 : Int32} {l2 : Int32} (hS : RfS M) (hd : 1 ≤ d)
    (h : Cl X (d - 1) 0 0 m_X11_isGame [vR 75, vI l1] M (fun r M1 => ∃ x1 : Int32, r = some (vI x1) ∧ Ext M M1 ∧ ((¬ x1 = nI 0 → Cl X (d - 1) 0 0 m_X11_goThrough [vR 75, vI l1] M1 (fun r M2 => r = none ∧ Ext M1 M2 ∧ Cl X (d - 1) 0 0 m_X11_mayMove [vR 75, vI l2] M2 (fun r M3 => ∃ x2 : Int32, r = some (vI x2) ∧ Ext M2 M3 ∧ ((¬ x2 = nI 0 → vp_in l1 8 ∧ vp_in (((nI 12) * l1) + (mI M3 101 (ix l1))) 96 ∧ ∀ M4 : Mem, M4 = sI M3 99 (ix (((nI 12) * l1) + (mI M3 101 (ix l1)))) l2 → vp_in l1 8 ∧ vp_in l1 8 ∧ ∀ M5 : Mem, M5 = sI M4 101 (ix l1) ((mI M4 101 (ix l1)) + (nI 1)) → Cl X (d - 1) 0 0 m_X11_makeMove [vR 75, vI l2, vI (-1)] M5 (fun r M6 => r = none ∧ Ext M5 M6 ∧ vp_in l1 8 ∧ vp_in (((nI 12) * l1) + (mI M6 101 (ix l1))) 96 ∧ ∀ M7 : Mem, M7 = sI M6 100 (ix (((nI 12) * l1) + (mI M6 101 (ix l1)))) (mI M6 75 29) → Q (some (vI (nI 1))) M7)) ∧ (x2 = nI 0 → Q (some (vI (nI 0))) M3))))) ∧ (x1 = nI 0 → Q (some (vI (nI 0))) M1)))) :
    WA X d kc ns m_X11_move 0 [some (vR 75), some (vI l1), some (vI l2)] [] M Q := by
  refine x_aload_n (tk K_X11_move 0 rfl) rfl rfl ?_
  refine x_iload_n (tk K_X11_move 1 rfl) rfl rfl ?_
  refine x_callV0 (As := [vI _]) (S := []) (tk K_X11_move 2 rfl) mk_X11_445 mo_X11_isGame (RfS.o hS) rfl rfl (Nat.le_of_ble_eq_true rfl) hd h (fun r M1 hq => ?_)
  obtain ⟨x1, rfl, hE, h⟩ := hq
  have hT0 := RfS.ext hS hE
  refine x_if_ne (t := 10) (tk K_X11_move 3 rfl) rfl (fun hc => ?_) (fun hc => ?_)
  · have h := h.1 hc
    refine x_aload_n (tk K_X11_move 6 rfl) rfl rfl ?_
    refine x_iload_n (tk K_X11_move 7 rfl) rfl rfl ?_
    refine x_callV0 (As := [vI _]) (S := []) (tk K_X11_move 8 rfl) mk_X11_448 mo_X11_goThrough (RfS.o hT0) rfl rfl (Nat.le_of_ble_eq_true rfl) hd h (fun r M2 hq => ?_)
    obtain ⟨rfl, hE, h⟩ := hq
    have hT1 := RfS.ext hT0 hE
    refine x_aload_n (tk K_X11_move 9 rfl) rfl rfl ?_
    refine x_iload_n (tk K_X11_move 10 rfl) rfl rfl ?_
    refine x_callV0 (As := [vI _]) (S := []) (tk K_X11_move 11 rfl) mk_X11_451 mo_X11_mayMove (RfS.o hT1) rfl rfl (Nat.le_of_ble_eq_true rfl) hd h (fun r M3 hq => ?_)
    obtain ⟨x2, rfl, hE, h⟩ := hq
    have hT2 := RfS.ext hT1 hE
    refine x_if_ne (t := 25) (tk K_X11_move 12 rfl) rfl (fun hc => ?_) (fun hc => ?_)
    · have h := h.1 hc
      refine x_aload_n (tk K_X11_move 15 rfl) rfl rfl ?_
      refine x_getRc (tk K_X11_move 16 rfl) f_X11_81 rfl (RfS.o hT2) (RfS.r48 hT2) ?_
      refine x_bipush (tk K_X11_move 17 rfl) bp_12 ?_
      refine x_iload_n (tk K_X11_move 18 rfl) rfl rfl ?_
      refine x_imul (tk K_X11_move 19 rfl) ?_
      refine x_aload_n (tk K_X11_move 20 rfl) rfl rfl ?_
      refine x_getRc (tk K_X11_move 21 rfl) f_X11_87 rfl (RfS.o hT2) (RfS.r50 hT2) ?_
      refine x_iload_n (tk K_X11_move 22 rfl) rfl rfl ?_
      have hi := h.1
      have h := h.2
      refine x_iald (tk K_X11_move 23 rfl) (RfS.k50 hT2) hi ?_
      refine x_iadd (tk K_X11_move 24 rfl) ?_
      refine x_iload_n (tk K_X11_move 25 rfl) rfl rfl ?_
      have hi := h.1
      have h := h.2
      have h := h _ rfl
      refine x_iast (tk K_X11_move 26 rfl) (RfS.k48 hT2) hi ?_
      refine x_aload_n (tk K_X11_move 27 rfl) rfl rfl ?_
      refine x_getRc (tk K_X11_move 28 rfl) f_X11_87 rfl (RfS.o hT2) (RfS.r50 hT2) ?_
      refine x_iload_n (tk K_X11_move 29 rfl) rfl rfl ?_
      refine x_dup2 (tk K_X11_move 30 rfl) rfl rfl ?_
      have hi := h.1
      have h := h.2
      refine x_iald (tk K_X11_move 31 rfl) (RfS.k50 hT2) hi ?_
      refine x_iconst (tk K_X11_move 32 rfl) ic_1 ?_
      refine x_iadd (tk K_X11_move 33 rfl) ?_
      have hi := h.1
      have h := h.2
      have h := h _ rfl
      refine x_iast (tk K_X11_move 34 rfl) (RfS.k50 hT2) hi ?_
      refine x_aload_n (tk K_X11_move 35 rfl) rfl rfl ?_
      refine x_iload_n (tk K_X11_move 36 rfl) rfl rfl ?_
      refine x_iconst (tk K_X11_move 37 rfl) ic_m1 ?_
      refine x_callV0 (As := [vI _, vI _]) (S := []) (tk K_X11_move 38 rfl) mk_X11_442 mo_X11_makeMove (RfS.o hT2) rfl rfl (Nat.le_of_ble_eq_true rfl) hd h (fun r M6 hq => ?_)
      obtain ⟨rfl, hE, h⟩ := hq
      have hT3 := RfS.ext hT2 hE
      have hT4 := hE.1 _ _ _ (RfS.k48 hT2)
      have hT5 := hE.1 _ _ _ (RfS.k50 hT2)
      refine x_aload_n (tk K_X11_move 39 rfl) rfl rfl ?_
      refine x_getRc (tk K_X11_move 40 rfl) f_X11_84 rfl (RfS.o hT3) (RfS.r49 hT3) ?_
      refine x_bipush (tk K_X11_move 41 rfl) bp_12 ?_
      refine x_iload_n (tk K_X11_move 42 rfl) rfl rfl ?_
      refine x_imul (tk K_X11_move 43 rfl) ?_
      refine x_aload_n (tk K_X11_move 44 rfl) rfl rfl ?_
      refine x_getRc (tk K_X11_move 45 rfl) f_X11_87 rfl (RfS.o hT3) (RfS.r50 hT3) ?_
      refine x_iload_n (tk K_X11_move 46 rfl) rfl rfl ?_
      have hi := h.1
      have h := h.2
      refine x_iald (tk K_X11_move 47 rfl) (RfS.k50 hT3) hi ?_
      refine x_iadd (tk K_X11_move 48 rfl) ?_
      refine x_aload_n (tk K_X11_move 49 rfl) rfl rfl ?_
      refine x_getI (tk K_X11_move 50 rfl) f_X11_300 rfl (RfS.o hT3) ?_
      have hi := h.1
      have h := h.2
      have h := h _ rfl
      refine x_iast (tk K_X11_move 51 rfl) (RfS.k49 hT3) hi ?_
      refine x_iconst (tk K_X11_move 52 rfl) ic_1 ?_
      exact x_ireturn (tk K_X11_move 53 rfl) rfl (fitZ (Or.inr rfl)).1 h
    · have h := h.2 hc
      refine x_iconst (tk K_X11_move 13 rfl) ic_0 ?_
      exact x_ireturn (tk K_X11_move 14 rfl) rfl (fitZ (Or.inl rfl)).1 h
  · have h := h.2 hc
    refine x_iconst (tk K_X11_move 4 rfl) ic_0 ?_
    exact x_ireturn (tk K_X11_move 5 rfl) rfl (fitZ (Or.inl rfl)).1 h

theorem e_X11_move {X : Cx} {d kc ns : Nat} {M : Mem} {Q : Option AV → Mem → Prop} {a1 : Int32} {a2 : Int32} (h : WA X d kc ns m_X11_move 0 [some (vR 75), some (vI a1), some (vI a2)] [] M Q) : Cl X d kc ns m_X11_move [vR 75, vI a1, vI a2] M Q := Cl.intro (k := 0) (by decide) rfl rfl h

-- TwoPencilsModel.undo(I)Z
theorem b_X11_undo_0 {X : Cx} {d kc ns : Nat} {M : Mem} {Q : Option AV → Mem → Prop} {l1 : Int32} (hS : RfS M) (hd : 1 ≤ d)
    (h : Cl X (d - 1) 0 0 m_X11_isGame [vR 75, vI l1] M (fun r M1 => ∃ x1 : Int32, r = some (vI x1) ∧ Ext M M1 ∧ ((x1 = nI 0 → Q (some (vI (nI 0))) M1) ∧ (¬ x1 = nI 0 → vp_in l1 8 ∧ ((¬ (mI M1 101 (ix l1)) = nI 0 → vp_in l1 8 ∧ vp_in l1 8 ∧ ∀ M2 : Mem, M2 = sI M1 101 (ix l1) ((mI M1 101 (ix l1)) - (nI 1)) → Q (some (vI (nI 1))) M2) ∧ ((mI M1 101 (ix l1)) = nI 0 → Q (some (vI (nI 0))) M1)))))) :
    WA X d kc ns m_X11_undo 0 [some (vR 75), some (vI l1)] [] M Q := by
  refine x_aload_n (tk K_X11_undo 0 rfl) rfl rfl ?_
  refine x_iload_n (tk K_X11_undo 1 rfl) rfl rfl ?_
  refine x_callV0 (As := [vI _]) (S := []) (tk K_X11_undo 2 rfl) mk_X11_445 mo_X11_isGame (RfS.o hS) rfl rfl (Nat.le_of_ble_eq_true rfl) hd h (fun r M1 hq => ?_)
  obtain ⟨x1, rfl, hE, h⟩ := hq
  have hT0 := RfS.ext hS hE
  refine x_if_eq (t := 17) (tk K_X11_undo 3 rfl) rfl (fun hc => ?_) (fun hc => ?_)
  · have h := h.1 hc
    refine x_iconst (tk K_X11_undo 9 rfl) ic_0 ?_
    exact x_ireturn (tk K_X11_undo 10 rfl) rfl (fitZ (Or.inl rfl)).1 h
  · have h := h.2 hc
    refine x_aload_n (tk K_X11_undo 4 rfl) rfl rfl ?_
    refine x_getRc (tk K_X11_undo 5 rfl) f_X11_87 rfl (RfS.o hT0) (RfS.r50 hT0) ?_
    refine x_iload_n (tk K_X11_undo 6 rfl) rfl rfl ?_
    have hi := h.1
    have h := h.2
    refine x_iald (tk K_X11_undo 7 rfl) (RfS.k50 hT0) hi ?_
    refine x_if_ne (t := 19) (tk K_X11_undo 8 rfl) rfl (fun hc => ?_) (fun hc => ?_)
    · have h := h.1 hc
      refine x_aload_n (tk K_X11_undo 11 rfl) rfl rfl ?_
      refine x_getRc (tk K_X11_undo 12 rfl) f_X11_87 rfl (RfS.o hT0) (RfS.r50 hT0) ?_
      refine x_iload_n (tk K_X11_undo 13 rfl) rfl rfl ?_
      refine x_dup2 (tk K_X11_undo 14 rfl) rfl rfl ?_
      have hi := h.1
      have h := h.2
      refine x_iald (tk K_X11_undo 15 rfl) (RfS.k50 hT0) hi ?_
      refine x_iconst (tk K_X11_undo 16 rfl) ic_1 ?_
      refine x_isub (tk K_X11_undo 17 rfl) ?_
      have hi := h.1
      have h := h.2
      have h := h _ rfl
      refine x_iast (tk K_X11_undo 18 rfl) (RfS.k50 hT0) hi ?_
      refine x_iconst (tk K_X11_undo 19 rfl) ic_1 ?_
      exact x_ireturn (tk K_X11_undo 20 rfl) rfl (fitZ (Or.inr rfl)).1 h
    · have h := h.2 hc
      refine x_iconst (tk K_X11_undo 9 rfl) ic_0 ?_
      exact x_ireturn (tk K_X11_undo 10 rfl) rfl (fitZ (Or.inl rfl)).1 h

theorem e_X11_undo {X : Cx} {d kc ns : Nat} {M : Mem} {Q : Option AV → Mem → Prop} {a1 : Int32} (h : WA X d kc ns m_X11_undo 0 [some (vR 75), some (vI a1)] [] M Q) : Cl X d kc ns m_X11_undo [vR 75, vI a1] M Q := Cl.intro (k := 0) (by decide) rfl rfl h

-- TwoPencilsModel.isGoal(I)Z
theorem b_X11_isGoal_0 {X : Cx} {d kc ns : Nat} {M : Mem} {Q : Option AV → Mem → Prop} {l0 : Int32} (hd : 1 ≤ d)
    (h : Cl X (d - 1) 0 0 m_X11_in [vI l0, vI (nI 0), vI (nI 2)] M (fun r M1 => ∃ x1 : Int32, r = some (vI x1) ∧ Ext M M1 ∧ (isB x1 ∧ Q (some (vI x1)) M1))) :
    WA X d kc ns m_X11_isGoal 0 [some (vI l0)] [] M Q := by
  refine x_iload_n (tk K_X11_isGoal 0 rfl) rfl rfl ?_
  refine x_iconst (tk K_X11_isGoal 1 rfl) ic_0 ?_
  refine x_iconst (tk K_X11_isGoal 2 rfl) ic_2 ?_
  refine x_callS0 (As := [vI _, vI _, vI _]) (S := []) (tk K_X11_isGoal 3 rfl) mk_X11_125 mo_X11_in rfl rfl (Nat.le_of_ble_eq_true rfl) hd h (fun r M1 hq => ?_)
  obtain ⟨x1, rfl, hE, h⟩ := hq
  exact x_ireturn (tk K_X11_isGoal 4 rfl) rfl (fitZ h.1).1 h.2

theorem e_X11_isGoal {X : Cx} {d kc ns : Nat} {M : Mem} {Q : Option AV → Mem → Prop} {a0 : Int32} (h : WA X d kc ns m_X11_isGoal 0 [some (vI a0)] [] M Q) : Cl X d kc ns m_X11_isGoal [vI a0] M Q := Cl.intro (k := 0) (by decide) rfl rfl h

-- TwoPencilsModel.best(II)I
theorem b_X11_best_0 {X : Cx} {d kc ns : Nat} {M : Mem} {Q : Option AV → Mem → Prop} {l1 : Int32} {l2 : Int32} (hS : RfS M) (hd : 1 ≤ d)
    (h : Cl X (d - 1) 0 0 m_X11_isGame [vR 75, vI l1] M (fun r M1 => ∃ x1 : Int32, r = some (vI x1) ∧ Ext M M1 ∧ ((x1 = nI 0 → Q (some (vI (-1))) M1) ∧ (¬ x1 = nI 0 → Cl X (d - 1) 0 0 m_X11_isGoal [vI l2] M1 (fun r M2 => ∃ x2 : Int32, r = some (vI x2) ∧ Ext M1 M2 ∧ ((¬ x2 = nI 0 → Cl X (d - 1) 0 0 m_X11_goThrough [vR 75, vI l1] M2 (fun r M3 => r = none ∧ Ext M2 M3 ∧ (((mI M3 75 29) ≤ (nI 7) → Cl X (d - 1) 0 0 m_X11_begin [vR 75, vI l2] M3 (fun r M4 => r = none ∧ Ext M3 M4 ∧ Cl X (d - 1) 0 0 m_X11_seekBest [vR 75] M4 (fun r M5 => ∃ x3 : Int32, r = some (vI x3) ∧ Ext M4 M5 ∧ Q (some (vI x3)) M5))) ∧ (¬ (mI M3 75 29) ≤ (nI 7) → Q (some (vI (-1))) M3)))) ∧ (x2 = nI 0 → Q (some (vI (-1))) M2))))))) :
    WA X d kc ns m_X11_best 0 [some (vR 75), some (vI l1), some (vI l2)] [] M Q := by
  refine x_aload_n (tk K_X11_best 0 rfl) rfl rfl ?_
  refine x_iload_n (tk K_X11_best 1 rfl) rfl rfl ?_
  refine x_callV0 (As := [vI _]) (S := []) (tk K_X11_best 2 rfl) mk_X11_445 mo_X11_isGame (RfS.o hS) rfl rfl (Nat.le_of_ble_eq_true rfl) hd h (fun r M1 hq => ?_)
  obtain ⟨x1, rfl, hE, h⟩ := hq
  have hT0 := RfS.ext hS hE
  refine x_if_eq (t := 15) (tk K_X11_best 3 rfl) rfl (fun hc => ?_) (fun hc => ?_)
  · have h := h.1 hc
    refine x_iconst (tk K_X11_best 7 rfl) ic_m1 ?_
    exact x_ireturn (tk K_X11_best 8 rfl) rfl rfl h
  · have h := h.2 hc
    refine x_iload_n (tk K_X11_best 4 rfl) rfl rfl ?_
    refine x_callS0 (As := [vI _]) (S := []) (tk K_X11_best 5 rfl) mk_X11_454 mo_X11_isGoal rfl rfl (Nat.le_of_ble_eq_true rfl) hd h (fun r M2 hq => ?_)
    obtain ⟨x2, rfl, hE, h⟩ := hq
    have hT1 := RfS.ext hT0 hE
    refine x_if_ne (t := 17) (tk K_X11_best 6 rfl) rfl (fun hc => ?_) (fun hc => ?_)
    · have h := h.1 hc
      refine x_aload_n (tk K_X11_best 9 rfl) rfl rfl ?_
      refine x_iload_n (tk K_X11_best 10 rfl) rfl rfl ?_
      refine x_callV0 (As := [vI _]) (S := []) (tk K_X11_best 11 rfl) mk_X11_448 mo_X11_goThrough (RfS.o hT1) rfl rfl (Nat.le_of_ble_eq_true rfl) hd h (fun r M3 hq => ?_)
      obtain ⟨rfl, hE, h⟩ := hq
      have hT2 := RfS.ext hT1 hE
      refine x_aload_n (tk K_X11_best 12 rfl) rfl rfl ?_
      refine x_getI (tk K_X11_best 13 rfl) f_X11_300 rfl (RfS.o hT2) ?_
      refine x_bipush (tk K_X11_best 14 rfl) bp_7 ?_
      refine x_icmp_le (t := 33) (tk K_X11_best 15 rfl) rfl (fun hc => ?_) (fun hc => ?_)
      · have h := h.1 hc
        refine x_aload_n (tk K_X11_best 18 rfl) rfl rfl ?_
        refine x_iload_n (tk K_X11_best 19 rfl) rfl rfl ?_
        refine x_callV0 (As := [vI _]) (S := []) (tk K_X11_best 20 rfl) mk_X11_457 mo_X11_begin (RfS.o hT2) rfl rfl (Nat.le_of_ble_eq_true rfl) hd h (fun r M4 hq => ?_)
        obtain ⟨rfl, hE, h⟩ := hq
        have hT3 := RfS.ext hT2 hE
        refine x_aload_n (tk K_X11_best 21 rfl) rfl rfl ?_
        refine x_callV0 (As := []) (S := []) (tk K_X11_best 22 rfl) mk_X11_433 mo_X11_seekBest (RfS.o hT3) rfl rfl (Nat.le_of_ble_eq_true rfl) hd h (fun r M5 hq => ?_)
        obtain ⟨x3, rfl, hE, h⟩ := hq
        have hT4 := RfS.ext hT3 hE
        exact x_ireturn (tk K_X11_best 23 rfl) rfl rfl h
      · have h := h.2 hc
        refine x_iconst (tk K_X11_best 16 rfl) ic_m1 ?_
        exact x_ireturn (tk K_X11_best 17 rfl) rfl rfl h
    · have h := h.2 hc
      refine x_iconst (tk K_X11_best 7 rfl) ic_m1 ?_
      exact x_ireturn (tk K_X11_best 8 rfl) rfl rfl h

theorem e_X11_best {X : Cx} {d kc ns : Nat} {M : Mem} {Q : Option AV → Mem → Prop} {a1 : Int32} {a2 : Int32} (h : WA X d kc ns m_X11_best 0 [some (vR 75), some (vI a1), some (vI a2)] [] M Q) : Cl X d kc ns m_X11_best [vR 75, vI a1, vI a2] M Q := Cl.intro (k := 0) (by decide) rfl rfl h

-- TwoPencilsModel.value(II)I
theorem b_X11_value_0 {X : Cx} {d kc ns : Nat} {M : Mem} {Q : Option AV → Mem → Prop} {l1 : Int32} {l2 : Int32} (hS : RfS M) (hd : 1 ≤ d)
    (h : Cl X (d - 1) 0 0 m_X11_isGame [vR 75, vI l1] M (fun r M1 => ∃ x1 : Int32, r = some (vI x1) ∧ Ext M M1 ∧ ((x1 = nI 0 → Q (some (vI (-100))) M1) ∧ (¬ x1 = nI 0 → Cl X (d - 1) 0 0 m_X11_isGoal [vI l2] M1 (fun r M2 => ∃ x2 : Int32, r = some (vI x2) ∧ Ext M1 M2 ∧ ((¬ x2 = nI 0 → Cl X (d - 1) 0 0 m_X11_goThrough [vR 75, vI l1] M2 (fun r M3 => r = none ∧ Ext M2 M3 ∧ Cl X (d - 1) 0 0 m_X11_begin [vR 75, vI l2] M3 (fun r M4 => r = none ∧ Ext M3 M4 ∧ Cl X (d - 1) 0 0 m_X11_valueNow [vR 75] M4 (fun r M5 => ∃ x3 : Int32, r = some (vI x3) ∧ Ext M4 M5 ∧ Q (some (vI x3)) M5)))) ∧ (x2 = nI 0 → Q (some (vI (-100))) M2))))))) :
    WA X d kc ns m_X11_value 0 [some (vR 75), some (vI l1), some (vI l2)] [] M Q := by
  refine x_aload_n (tk K_X11_value 0 rfl) rfl rfl ?_
  refine x_iload_n (tk K_X11_value 1 rfl) rfl rfl ?_
  refine x_callV0 (As := [vI _]) (S := []) (tk K_X11_value 2 rfl) mk_X11_445 mo_X11_isGame (RfS.o hS) rfl rfl (Nat.le_of_ble_eq_true rfl) hd h (fun r M1 hq => ?_)
  obtain ⟨x1, rfl, hE, h⟩ := hq
  have hT0 := RfS.ext hS hE
  refine x_if_eq (t := 15) (tk K_X11_value 3 rfl) rfl (fun hc => ?_) (fun hc => ?_)
  · have h := h.1 hc
    refine x_bipush (tk K_X11_value 7 rfl) bp_m100 ?_
    exact x_ireturn (tk K_X11_value 8 rfl) rfl rfl h
  · have h := h.2 hc
    refine x_iload_n (tk K_X11_value 4 rfl) rfl rfl ?_
    refine x_callS0 (As := [vI _]) (S := []) (tk K_X11_value 5 rfl) mk_X11_454 mo_X11_isGoal rfl rfl (Nat.le_of_ble_eq_true rfl) hd h (fun r M2 hq => ?_)
    obtain ⟨x2, rfl, hE, h⟩ := hq
    have hT1 := RfS.ext hT0 hE
    refine x_if_ne (t := 18) (tk K_X11_value 6 rfl) rfl (fun hc => ?_) (fun hc => ?_)
    · have h := h.1 hc
      refine x_aload_n (tk K_X11_value 9 rfl) rfl rfl ?_
      refine x_iload_n (tk K_X11_value 10 rfl) rfl rfl ?_
      refine x_callV0 (As := [vI _]) (S := []) (tk K_X11_value 11 rfl) mk_X11_448 mo_X11_goThrough (RfS.o hT1) rfl rfl (Nat.le_of_ble_eq_true rfl) hd h (fun r M3 hq => ?_)
      obtain ⟨rfl, hE, h⟩ := hq
      have hT2 := RfS.ext hT1 hE
      refine x_aload_n (tk K_X11_value 12 rfl) rfl rfl ?_
      refine x_iload_n (tk K_X11_value 13 rfl) rfl rfl ?_
      refine x_callV0 (As := [vI _]) (S := []) (tk K_X11_value 14 rfl) mk_X11_457 mo_X11_begin (RfS.o hT2) rfl rfl (Nat.le_of_ble_eq_true rfl) hd h (fun r M4 hq => ?_)
      obtain ⟨rfl, hE, h⟩ := hq
      have hT3 := RfS.ext hT2 hE
      refine x_aload_n (tk K_X11_value 15 rfl) rfl rfl ?_
      refine x_callV0 (As := []) (S := []) (tk K_X11_value 16 rfl) mk_X11_460 mo_X11_valueNow (RfS.o hT3) rfl rfl (Nat.le_of_ble_eq_true rfl) hd h (fun r M5 hq => ?_)
      obtain ⟨x3, rfl, hE, h⟩ := hq
      have hT4 := RfS.ext hT3 hE
      exact x_ireturn (tk K_X11_value 17 rfl) rfl rfl h
    · have h := h.2 hc
      refine x_bipush (tk K_X11_value 7 rfl) bp_m100 ?_
      exact x_ireturn (tk K_X11_value 8 rfl) rfl rfl h

theorem e_X11_value {X : Cx} {d kc ns : Nat} {M : Mem} {Q : Option AV → Mem → Prop} {a1 : Int32} {a2 : Int32} (h : WA X d kc ns m_X11_value 0 [some (vR 75), some (vI a1), some (vI a2)] [] M Q) : Cl X d kc ns m_X11_value [vR 75, vI a1, vI a2] M Q := Cl.intro (k := 0) (by decide) rfl rfl h

-- TwoPencilsModel.kept(II)I
theorem b_X11_kept_0 {X : Cx} {d kc ns : Nat} {M : Mem} {Q : Option AV → Mem → Prop} {l1 : Int32} {l2 : Int32} (hS : RfS M) (hd : 1 ≤ d)
    (h : Cl X (d - 1) 0 0 m_X11_isGame [vR 75, vI l1] M (fun r M1 => ∃ x1 : Int32, r = some (vI x1) ∧ Ext M M1 ∧ ((¬ x1 = nI 0 → Cl X (d - 1) 0 0 m_X11_goThrough [vR 75, vI l1] M1 (fun r M2 => r = none ∧ Ext M1 M2 ∧ ((¬ l2 = (-1) → Cl X (d - 1) 0 0 m_X11_in [vI l2, vI (nI 0), vI ((mI M2 75 32) - (nI 1))] M2 (fun r M3 => ∃ x2 : Int32, r = some (vI x2) ∧ Ext M2 M3 ∧ ((x2 = nI 0 → Q (some (vI (-1))) M3) ∧ (¬ x2 = nI 0 → vp_in l2 4 ∧ Q (some (vI (mI M3 92 (ix l2)))) M3)))) ∧ (l2 = (-1) → Q (some (vI (mI M2 75 32))) M2)))) ∧ (x1 = nI 0 → Q (some (vI (-1))) M1)))) :
    WA X d kc ns m_X11_kept 0 [some (vR 75), some (vI l1), some (vI l2)] [] M Q := by
  refine x_aload_n (tk K_X11_kept 0 rfl) rfl rfl ?_
  refine x_iload_n (tk K_X11_kept 1 rfl) rfl rfl ?_
  refine x_callV0 (As := [vI _]) (S := []) (tk K_X11_kept 2 rfl) mk_X11_445 mo_X11_isGame (RfS.o hS) rfl rfl (Nat.le_of_ble_eq_true rfl) hd h (fun r M1 hq => ?_)
  obtain ⟨x1, rfl, hE, h⟩ := hq
  have hT0 := RfS.ext hS hE
  refine x_if_ne (t := 10) (tk K_X11_kept 3 rfl) rfl (fun hc => ?_) (fun hc => ?_)
  · have h := h.1 hc
    refine x_aload_n (tk K_X11_kept 6 rfl) rfl rfl ?_
    refine x_iload_n (tk K_X11_kept 7 rfl) rfl rfl ?_
    refine x_callV0 (As := [vI _]) (S := []) (tk K_X11_kept 8 rfl) mk_X11_448 mo_X11_goThrough (RfS.o hT0) rfl rfl (Nat.le_of_ble_eq_true rfl) hd h (fun r M2 hq => ?_)
    obtain ⟨rfl, hE, h⟩ := hq
    have hT1 := RfS.ext hT0 hE
    refine x_iload_n (tk K_X11_kept 9 rfl) rfl rfl ?_
    refine x_iconst (tk K_X11_kept 10 rfl) ic_m1 ?_
    refine x_icmp_ne (t := 27) (tk K_X11_kept 11 rfl) rfl (fun hc => ?_) (fun hc => ?_)
    · have h := h.1 hc
      refine x_iload_n (tk K_X11_kept 15 rfl) rfl rfl ?_
      refine x_iconst (tk K_X11_kept 16 rfl) ic_0 ?_
      refine x_aload_n (tk K_X11_kept 17 rfl) rfl rfl ?_
      refine x_getI (tk K_X11_kept 18 rfl) f_X11_288 rfl (RfS.o hT1) ?_
      refine x_iconst (tk K_X11_kept 19 rfl) ic_1 ?_
      refine x_isub (tk K_X11_kept 20 rfl) ?_
      refine x_callS0 (As := [vI _, vI _, vI _]) (S := []) (tk K_X11_kept 21 rfl) mk_X11_125 mo_X11_in rfl rfl (Nat.le_of_ble_eq_true rfl) hd h (fun r M3 hq => ?_)
      obtain ⟨x2, rfl, hE, h⟩ := hq
      have hT2 := RfS.ext hT1 hE
      refine x_if_eq (t := 50) (tk K_X11_kept 22 rfl) rfl (fun hc => ?_) (fun hc => ?_)
      · have h := h.1 hc
        refine x_iconst (tk K_X11_kept 28 rfl) ic_m1 ?_
        exact x_ireturn (tk K_X11_kept 29 rfl) rfl rfl h
      · have h := h.2 hc
        refine x_aload_n (tk K_X11_kept 23 rfl) rfl rfl ?_
        refine x_getRc (tk K_X11_kept 24 rfl) f_X11_59 rfl (RfS.o hT2) (RfS.r33 hT2) ?_
        refine x_iload_n (tk K_X11_kept 25 rfl) rfl rfl ?_
        have hi := h.1
        have h := h.2
        refine x_iald (tk K_X11_kept 26 rfl) (RfS.k33 hT2) hi ?_
        refine x_goto (t := 51) (tk K_X11_kept 27 rfl) rfl ?_
        exact x_ireturn (tk K_X11_kept 29 rfl) rfl rfl h
    · have h := h.2 hc
      refine x_aload_n (tk K_X11_kept 12 rfl) rfl rfl ?_
      refine x_getI (tk K_X11_kept 13 rfl) f_X11_288 rfl (RfS.o hT1) ?_
      refine x_goto (t := 51) (tk K_X11_kept 14 rfl) rfl ?_
      exact x_ireturn (tk K_X11_kept 29 rfl) rfl rfl h
  · have h := h.2 hc
    refine x_iconst (tk K_X11_kept 4 rfl) ic_m1 ?_
    exact x_ireturn (tk K_X11_kept 5 rfl) rfl rfl h

theorem e_X11_kept {X : Cx} {d kc ns : Nat} {M : Mem} {Q : Option AV → Mem → Prop} {a1 : Int32} {a2 : Int32} (h : WA X d kc ns m_X11_kept 0 [some (vR 75), some (vI a1), some (vI a2)] [] M Q) : Cl X d kc ns m_X11_kept [vR 75, vI a1, vI a2] M Q := Cl.intro (k := 0) (by decide) rfl rfl h

-- TwoPencilsModel.isBoth(II)Z
theorem b_X11_isBoth_0 {X : Cx} {d kc ns : Nat} {M : Mem} {Q : Option AV → Mem → Prop} {l1 : Int32} {l2 : Int32} (hS : RfS M) (hd : 1 ≤ d)
    (h : Cl X (d - 1) 0 0 m_X11_isLand [vR 75, vI l1] M (fun r M1 => ∃ x1 : Int32, r = some (vI x1) ∧ Ext M M1 ∧ ((x1 = nI 0 → Q (some (vI (nI 0))) M1) ∧ (¬ x1 = nI 0 → Cl X (d - 1) 0 0 m_X11_in [vI l2, vI (nI 0), vI ((mI M1 75 16) - (nI 1))] M1 (fun r M2 => ∃ x2 : Int32, r = some (vI x2) ∧ Ext M1 M2 ∧ ((x2 = nI 0 → Q (some (vI (nI 0))) M2) ∧ (¬ x2 = nI 0 → Q (some (vI (nI 1))) M2))))))) :
    WA X d kc ns m_X11_isBoth 0 [some (vR 75), some (vI l1), some (vI l2)] [] M Q := by
  refine x_aload_n (tk K_X11_isBoth 0 rfl) rfl rfl ?_
  refine x_iload_n (tk K_X11_isBoth 1 rfl) rfl rfl ?_
  refine x_callV0 (As := [vI _]) (S := []) (tk K_X11_isBoth 2 rfl) mk_X11_168 mo_X11_isLand (RfS.o hS) rfl rfl (Nat.le_of_ble_eq_true rfl) hd h (fun r M1 hq => ?_)
  obtain ⟨x1, rfl, hE, h⟩ := hq
  have hT0 := RfS.ext hS hE
  refine x_if_eq (t := 26) (tk K_X11_isBoth 3 rfl) rfl (fun hc => ?_) (fun hc => ?_)
  · have h := h.1 hc
    refine x_iconst (tk K_X11_isBoth 14 rfl) ic_0 ?_
    exact x_ireturn (tk K_X11_isBoth 15 rfl) rfl (fitZ (Or.inl rfl)).1 h
  · have h := h.2 hc
    refine x_iload_n (tk K_X11_isBoth 4 rfl) rfl rfl ?_
    refine x_iconst (tk K_X11_isBoth 5 rfl) ic_0 ?_
    refine x_aload_n (tk K_X11_isBoth 6 rfl) rfl rfl ?_
    refine x_getI (tk K_X11_isBoth 7 rfl) f_X11_165 rfl (RfS.o hT0) ?_
    refine x_iconst (tk K_X11_isBoth 8 rfl) ic_1 ?_
    refine x_isub (tk K_X11_isBoth 9 rfl) ?_
    refine x_callS0 (As := [vI _, vI _, vI _]) (S := []) (tk K_X11_isBoth 10 rfl) mk_X11_125 mo_X11_in rfl rfl (Nat.le_of_ble_eq_true rfl) hd h (fun r M2 hq => ?_)
    obtain ⟨x2, rfl, hE, h⟩ := hq
    have hT1 := RfS.ext hT0 hE
    refine x_if_eq (t := 26) (tk K_X11_isBoth 11 rfl) rfl (fun hc => ?_) (fun hc => ?_)
    · have h := h.1 hc
      refine x_iconst (tk K_X11_isBoth 14 rfl) ic_0 ?_
      exact x_ireturn (tk K_X11_isBoth 15 rfl) rfl (fitZ (Or.inl rfl)).1 h
    · have h := h.2 hc
      refine x_iconst (tk K_X11_isBoth 12 rfl) ic_1 ?_
      refine x_goto (t := 27) (tk K_X11_isBoth 13 rfl) rfl ?_
      exact x_ireturn (tk K_X11_isBoth 15 rfl) rfl (fitZ (Or.inr rfl)).1 h

theorem e_X11_isBoth {X : Cx} {d kc ns : Nat} {M : Mem} {Q : Option AV → Mem → Prop} {a1 : Int32} {a2 : Int32} (h : WA X d kc ns m_X11_isBoth 0 [some (vR 75), some (vI a1), some (vI a2)] [] M Q) : Cl X d kc ns m_X11_isBoth [vR 75, vI a1, vI a2] M Q := Cl.intro (k := 0) (by decide) rfl rfl h

-- TwoPencilsModel.sureOf(IIII)I
theorem b_X11_sureOf_0 {X : Cx} {d kc ns : Nat} {M : Mem} {Q : Option AV → Mem → Prop} {l1 : Int32} {l2 : Int32} {l3 : Int32} {l4 : Int32} (hS : RfS M) (hd : 1 ≤ d)
    (h : Cl X (d - 1) 0 0 m_X11_startGame [vR 75, vI l1, vI l2, vI l4] M (fun r M1 => r = none ∧ Ext M M1 ∧ Cl X (d - 1) 0 0 m_X11_begin [vR 75, vI l3] M1 (fun r M2 => r = none ∧ Ext M1 M2 ∧ Cl X (d - 1) 0 0 m_X11_valueNow [vR 75] M2 (fun r M3 => ∃ x1 : Int32, r = some (vI x1) ∧ Ext M2 M3 ∧ Q (some (vI x1)) M3)))) :
    WA X d kc ns m_X11_sureOf 0 [some (vR 75), some (vI l1), some (vI l2), some (vI l3), some (vI l4)] [] M Q := by
  refine x_aload_n (tk K_X11_sureOf 0 rfl) rfl rfl ?_
  refine x_iload_n (tk K_X11_sureOf 1 rfl) rfl rfl ?_
  refine x_iload_n (tk K_X11_sureOf 2 rfl) rfl rfl ?_
  refine x_iload (tk K_X11_sureOf 3 rfl) rfl ?_
  refine x_callV0 (As := [vI _, vI _, vI _]) (S := []) (tk K_X11_sureOf 4 rfl) mk_X11_439 mo_X11_startGame (RfS.o hS) rfl rfl (Nat.le_of_ble_eq_true rfl) hd h (fun r M1 hq => ?_)
  obtain ⟨rfl, hE, h⟩ := hq
  have hT0 := RfS.ext hS hE
  refine x_aload_n (tk K_X11_sureOf 5 rfl) rfl rfl ?_
  refine x_iload_n (tk K_X11_sureOf 6 rfl) rfl rfl ?_
  refine x_callV0 (As := [vI _]) (S := []) (tk K_X11_sureOf 7 rfl) mk_X11_457 mo_X11_begin (RfS.o hT0) rfl rfl (Nat.le_of_ble_eq_true rfl) hd h (fun r M2 hq => ?_)
  obtain ⟨rfl, hE, h⟩ := hq
  have hT1 := RfS.ext hT0 hE
  refine x_aload_n (tk K_X11_sureOf 8 rfl) rfl rfl ?_
  refine x_callV0 (As := []) (S := []) (tk K_X11_sureOf 9 rfl) mk_X11_460 mo_X11_valueNow (RfS.o hT1) rfl rfl (Nat.le_of_ble_eq_true rfl) hd h (fun r M3 hq => ?_)
  obtain ⟨x1, rfl, hE, h⟩ := hq
  have hT2 := RfS.ext hT1 hE
  exact x_ireturn (tk K_X11_sureOf 10 rfl) rfl rfl h

theorem e_X11_sureOf {X : Cx} {d kc ns : Nat} {M : Mem} {Q : Option AV → Mem → Prop} {a1 : Int32} {a2 : Int32} {a3 : Int32} {a4 : Int32} (h : WA X d kc ns m_X11_sureOf 0 [some (vR 75), some (vI a1), some (vI a2), some (vI a3), some (vI a4)] [] M Q) : Cl X d kc ns m_X11_sureOf [vR 75, vI a1, vI a2, vI a3, vI a4] M Q := Cl.intro (k := 0) (by decide) rfl rfl h

-- TwoPencilsModel.sure(III)I
theorem b_X11_sure_0 {X : Cx} {d kc ns : Nat} {M : Mem} {Q : Option AV → Mem → Prop} {l1 : Int32} {l2 : Int32} {l3 : Int32} (hS : RfS M) (hd : 1 ≤ d)
    (h : Cl X (d - 1) 0 0 m_X11_isBoth [vR 75, vI l1, vI l2] M (fun r M1 => ∃ x1 : Int32, r = some (vI x1) ∧ Ext M M1 ∧ ((x1 = nI 0 → Q (some (vI (-100))) M1) ∧ (¬ x1 = nI 0 → Cl X (d - 1) 0 0 m_X11_isGoal [vI l3] M1 (fun r M2 => ∃ x2 : Int32, r = some (vI x2) ∧ Ext M1 M2 ∧ ((x2 = nI 0 → Q (some (vI (-100))) M2) ∧ (¬ x2 = nI 0 → Cl X (d - 1) 0 0 m_X11_sureOf [vR 75, vI l1, vI l2, vI l3, vI (nI 0)] M2 (fun r M3 => ∃ x3 : Int32, r = some (vI x3) ∧ Ext M2 M3 ∧ Q (some (vI x3)) M3)))))))) :
    WA X d kc ns m_X11_sure 0 [some (vR 75), some (vI l1), some (vI l2), some (vI l3)] [] M Q := by
  refine x_aload_n (tk K_X11_sure 0 rfl) rfl rfl ?_
  refine x_iload_n (tk K_X11_sure 1 rfl) rfl rfl ?_
  refine x_iload_n (tk K_X11_sure 2 rfl) rfl rfl ?_
  refine x_callV0 (As := [vI _, vI _]) (S := []) (tk K_X11_sure 3 rfl) mk_X11_463 mo_X11_isBoth (RfS.o hS) rfl rfl (Nat.le_of_ble_eq_true rfl) hd h (fun r M1 hq => ?_)
  obtain ⟨x1, rfl, hE, h⟩ := hq
  have hT0 := RfS.ext hS hE
  refine x_if_eq (t := 27) (tk K_X11_sure 4 rfl) rfl (fun hc => ?_) (fun hc => ?_)
  · have h := h.1 hc
    refine x_bipush (tk K_X11_sure 15 rfl) bp_m100 ?_
    exact x_ireturn (tk K_X11_sure 16 rfl) rfl rfl h
  · have h := h.2 hc
    refine x_iload_n (tk K_X11_sure 5 rfl) rfl rfl ?_
    refine x_callS0 (As := [vI _]) (S := []) (tk K_X11_sure 6 rfl) mk_X11_454 mo_X11_isGoal rfl rfl (Nat.le_of_ble_eq_true rfl) hd h (fun r M2 hq => ?_)
    obtain ⟨x2, rfl, hE, h⟩ := hq
    have hT1 := RfS.ext hT0 hE
    refine x_if_eq (t := 27) (tk K_X11_sure 7 rfl) rfl (fun hc => ?_) (fun hc => ?_)
    · have h := h.1 hc
      refine x_bipush (tk K_X11_sure 15 rfl) bp_m100 ?_
      exact x_ireturn (tk K_X11_sure 16 rfl) rfl rfl h
    · have h := h.2 hc
      refine x_aload_n (tk K_X11_sure 8 rfl) rfl rfl ?_
      refine x_iload_n (tk K_X11_sure 9 rfl) rfl rfl ?_
      refine x_iload_n (tk K_X11_sure 10 rfl) rfl rfl ?_
      refine x_iload_n (tk K_X11_sure 11 rfl) rfl rfl ?_
      refine x_iconst (tk K_X11_sure 12 rfl) ic_0 ?_
      refine x_callV0 (As := [vI _, vI _, vI _, vI _]) (S := []) (tk K_X11_sure 13 rfl) mk_X11_466 mo_X11_sureOf (RfS.o hT1) rfl rfl (Nat.le_of_ble_eq_true rfl) hd h (fun r M3 hq => ?_)
      obtain ⟨x3, rfl, hE, h⟩ := hq
      have hT2 := RfS.ext hT1 hE
      refine x_goto (t := 29) (tk K_X11_sure 14 rfl) rfl ?_
      exact x_ireturn (tk K_X11_sure 16 rfl) rfl rfl h

theorem e_X11_sure {X : Cx} {d kc ns : Nat} {M : Mem} {Q : Option AV → Mem → Prop} {a1 : Int32} {a2 : Int32} {a3 : Int32} (h : WA X d kc ns m_X11_sure 0 [some (vR 75), some (vI a1), some (vI a2), some (vI a3)] [] M Q) : Cl X d kc ns m_X11_sure [vR 75, vI a1, vI a2, vI a3] M Q := Cl.intro (k := 0) (by decide) rfl rfl h

-- TwoPencilsModel.keptCut()I
theorem b_X11_keptCut_0 {X : Cx} {d kc ns : Nat} {M : Mem} {Q : Option AV → Mem → Prop} (hS : RfS M)
    (h : WA X d kc ns m_X11_keptCut 6 [some (vR 75), some (vI (nI 0)), some (vI (nI 0)), some (vI (nI 0)), none] [] M Q) :
    WA X d kc ns m_X11_keptCut 0 [some (vR 75), none, none, none, none] [] M Q := by
  refine x_iconst (tk K_X11_keptCut 0 rfl) ic_0 ?_
  refine x_istore_n (L' := [some (vR _), some (vI _), none, none, none]) (tk K_X11_keptCut 1 rfl) rfl rfl (Nat.le_of_ble_eq_true rfl) rfl ?_
  refine x_iconst (tk K_X11_keptCut 2 rfl) ic_0 ?_
  refine x_istore_n (L' := [some (vR _), some (vI _), some (vI _), none, none]) (tk K_X11_keptCut 3 rfl) rfl rfl (Nat.le_of_ble_eq_true rfl) rfl ?_
  refine x_iconst (tk K_X11_keptCut 4 rfl) ic_0 ?_
  refine x_istore_n (L' := [some (vR _), some (vI _), some (vI _), some (vI _), none]) (tk K_X11_keptCut 5 rfl) rfl rfl (Nat.le_of_ble_eq_true rfl) rfl ?_
  exact h

theorem b_X11_keptCut_6 {X : Cx} {d kc ns : Nat} {M : Mem} {Q : Option AV → Mem → Prop} {l1 : Int32} {l2 : Int32} {l3 : Int32} (hS : RfS M)
    (h : (((nI 4) ≤ l3 → WA X d kc ns m_X11_keptCut 26 [some (vR 75), some (vI l1), some (vI l2), some (vI (nI 0)), none] [] M Q) ∧ (¬ (nI 4) ≤ l3 → vp_in l3 4 ∧ ∀ M1 : Mem, M1 = sI M 91 (ix l3) (-1) → WA X d kc ns m_X11_keptCut 6 [some (vR 75), some (vI l1), some (vI l2), some (vI (l3 + (nI 1))), none] [] M1 Q))) :
    WA X d kc ns m_X11_keptCut 6 [some (vR 75), some (vI l1), some (vI l2), some (vI l3), none] [] M Q := by
  refine x_iload_n (tk K_X11_keptCut 6 rfl) rfl rfl ?_
  refine x_iconst (tk K_X11_keptCut 7 rfl) ic_4 ?_
  refine x_icmp_ge (t := 24) (tk K_X11_keptCut 8 rfl) rfl (fun hc => ?_) (fun hc => ?_)
  · have h := h.1 hc
    refine x_iconst (tk K_X11_keptCut 16 rfl) ic_0 ?_
    refine x_istore_n (L' := [some (vR _), some (vI _), some (vI _), some (vI _), none]) (tk K_X11_keptCut 17 rfl) rfl rfl (Nat.le_of_ble_eq_true rfl) rfl ?_
    exact h
  · have h := h.2 hc
    refine x_aload_n (tk K_X11_keptCut 9 rfl) rfl rfl ?_
    refine x_getRc (tk K_X11_keptCut 10 rfl) f_X11_56 rfl (RfS.o hS) (RfS.r23 hS) ?_
    refine x_iload_n (tk K_X11_keptCut 11 rfl) rfl rfl ?_
    refine x_iconst (tk K_X11_keptCut 12 rfl) ic_m1 ?_
    have hi := h.1
    have h := h.2
    have h := h _ rfl
    refine x_iast (tk K_X11_keptCut 13 rfl) (RfS.k23 hS) hi ?_
    refine x_iincW (L' := [some (vR _), some (vI _), some (vI _), some (vI _), none]) (tk K_X11_keptCut 14 rfl) rfl ic_1 rfl (Nat.le_of_ble_eq_true rfl) rfl ?_
    refine x_goto (t := 6) (tk K_X11_keptCut 15 rfl) rfl ?_
    exact h

theorem b_X11_keptCut_26 {X : Cx} {d kc ns : Nat} {M : Mem} {Q : Option AV → Mem → Prop} {l1 : Int32} {l2 : Int32} {l3 : Int32} (hS : RfS M)
    (h : vp_in (mI M 75 19) 7 ∧ (((mI M 77 (ix (mI M 75 19))) ≤ l3 → Q (some (vI l1)) M) ∧ (¬ (mI M 77 (ix (mI M 75 19))) ≤ l3 → WA X d kc ns m_X11_keptCut 42 [some (vR 75), some (vI l1), some (vI l2), some (vI l3), some (vI (nI 0))] [] M Q))) :
    WA X d kc ns m_X11_keptCut 26 [some (vR 75), some (vI l1), some (vI l2), some (vI l3), none] [] M Q := by
  refine x_iload_n (tk K_X11_keptCut 18 rfl) rfl rfl ?_
  refine x_aload_n (tk K_X11_keptCut 19 rfl) rfl rfl ?_
  refine x_getRc (tk K_X11_keptCut 20 rfl) f_X11_13 rfl (RfS.o hS) (RfS.r5 hS) ?_
  refine x_aload_n (tk K_X11_keptCut 21 rfl) rfl rfl ?_
  refine x_getI (tk K_X11_keptCut 22 rfl) f_X11_184 rfl (RfS.o hS) ?_
  have hi := h.1
  have h := h.2
  refine x_iald (tk K_X11_keptCut 23 rfl) (RfS.k5 hS) hi ?_
  refine x_icmp_ge (t := 102) (tk K_X11_keptCut 24 rfl) rfl (fun hc => ?_) (fun hc => ?_)
  · have h := h.1 hc
    refine x_iload_n (tk K_X11_keptCut 61 rfl) rfl rfl ?_
    exact x_ireturn (tk K_X11_keptCut 62 rfl) rfl rfl h
  · have h := h.2 hc
    refine x_iconst (tk K_X11_keptCut 25 rfl) ic_0 ?_
    refine x_istore (L' := [some (vR _), some (vI _), some (vI _), some (vI _), some (vI _)]) (tk K_X11_keptCut 26 rfl) rfl (Nat.le_of_ble_eq_true rfl) rfl ?_
    exact h

theorem b_X11_keptCut_42 {X : Cx} {d kc ns : Nat} {M : Mem} {Q : Option AV → Mem → Prop} {l1 : Int32} {l2 : Int32} {l3 : Int32} {l4 : Int32} (hS : RfS M)
    (h : vp_in l4 4 ∧ ((¬ ((shr (mI M 92 (ix l4)) l3) &&& (nI 1)) = nI 0 → vp_in l4 4 ∧ ((¬ (mI M 91 (ix l4)) = (-1) → WA X d kc ns m_X11_keptCut 84 [some (vR 75), some (vI l1), some (vI l2), some (vI l3), some (vI l4)] [] M Q) ∧ ((mI M 91 (ix l4)) = (-1) → vp_in l4 4 ∧ ∀ M1 : Mem, M1 = sI M 91 (ix l4) l2 → WA X d kc ns m_X11_keptCut 84 [some (vR 75), some (vI l1), some (vI (l2 + (nI 1))), some (vI l3), some (vI l4)] [] M1 Q))) ∧ (((shr (mI M 92 (ix l4)) l3) &&& (nI 1)) = nI 0 → WA X d kc ns m_X11_keptCut 42 [some (vR 75), some (vI l1), some (vI l2), some (vI l3), some (vI (l4 + (nI 1)))] [] M Q))) :
    WA X d kc ns m_X11_keptCut 42 [some (vR 75), some (vI l1), some (vI l2), some (vI l3), some (vI l4)] [] M Q := by
  refine x_aload_n (tk K_X11_keptCut 27 rfl) rfl rfl ?_
  refine x_getRc (tk K_X11_keptCut 28 rfl) f_X11_59 rfl (RfS.o hS) (RfS.r33 hS) ?_
  refine x_iload (tk K_X11_keptCut 29 rfl) rfl ?_
  have hi := h.1
  have h := h.2
  refine x_iald (tk K_X11_keptCut 30 rfl) (RfS.k33 hS) hi ?_
  refine x_iload_n (tk K_X11_keptCut 31 rfl) rfl rfl ?_
  refine x_ishr (tk K_X11_keptCut 32 rfl) ?_
  refine x_iconst (tk K_X11_keptCut 33 rfl) ic_1 ?_
  refine x_iand (tk K_X11_keptCut 34 rfl) ?_
  refine x_if_ne (t := 62) (tk K_X11_keptCut 35 rfl) rfl (fun hc => ?_) (fun hc => ?_)
  · have h := h.1 hc
    refine x_aload_n (tk K_X11_keptCut 38 rfl) rfl rfl ?_
    refine x_getRc (tk K_X11_keptCut 39 rfl) f_X11_56 rfl (RfS.o hS) (RfS.r23 hS) ?_
    refine x_iload (tk K_X11_keptCut 40 rfl) rfl ?_
    have hi := h.1
    have h := h.2
    refine x_iald (tk K_X11_keptCut 41 rfl) (RfS.k23 hS) hi ?_
    refine x_iconst (tk K_X11_keptCut 42 rfl) ic_m1 ?_
    refine x_icmp_ne (t := 84) (tk K_X11_keptCut 43 rfl) rfl (fun hc => ?_) (fun hc => ?_)
    · have h := h.1 hc
      exact h
    · have h := h.2 hc
      refine x_aload_n (tk K_X11_keptCut 44 rfl) rfl rfl ?_
      refine x_getRc (tk K_X11_keptCut 45 rfl) f_X11_56 rfl (RfS.o hS) (RfS.r23 hS) ?_
      refine x_iload (tk K_X11_keptCut 46 rfl) rfl ?_
      refine x_iload_n (tk K_X11_keptCut 47 rfl) rfl rfl ?_
      have hi := h.1
      have h := h.2
      have h := h _ rfl
      refine x_iast (tk K_X11_keptCut 48 rfl) (RfS.k23 hS) hi ?_
      refine x_iincW (L' := [some (vR _), some (vI _), some (vI _), some (vI _), some (vI _)]) (tk K_X11_keptCut 49 rfl) rfl ic_1 rfl (Nat.le_of_ble_eq_true rfl) rfl ?_
      exact h
  · have h := h.2 hc
    refine x_iincW (L' := [some (vR _), some (vI _), some (vI _), some (vI _), some (vI _)]) (tk K_X11_keptCut 36 rfl) rfl ic_1 rfl (Nat.le_of_ble_eq_true rfl) rfl ?_
    refine x_goto (t := 42) (tk K_X11_keptCut 37 rfl) rfl ?_
    exact h

theorem b_X11_keptCut_84 {X : Cx} {d kc ns : Nat} {M : Mem} {Q : Option AV → Mem → Prop} {l1 : Int32} {l2 : Int32} {l3 : Int32} {l4 : Int32} (hS : RfS M)
    (h : vp_in l4 4 ∧ ∀ x1 : Int32, x1 = (((nI 4) * l1) + (mI M 91 (ix l4))) → WA X d kc ns m_X11_keptCut 26 [some (vR 75), some (vI x1), some (vI l2), some (vI (l3 + (nI 1))), none] [] M Q) :
    WA X d kc ns m_X11_keptCut 84 [some (vR 75), some (vI l1), some (vI l2), some (vI l3), some (vI l4)] [] M Q := by
  refine x_iconst (tk K_X11_keptCut 50 rfl) ic_4 ?_
  refine x_iload_n (tk K_X11_keptCut 51 rfl) rfl rfl ?_
  refine x_imul (tk K_X11_keptCut 52 rfl) ?_
  refine x_aload_n (tk K_X11_keptCut 53 rfl) rfl rfl ?_
  refine x_getRc (tk K_X11_keptCut 54 rfl) f_X11_56 rfl (RfS.o hS) (RfS.r23 hS) ?_
  refine x_iload (tk K_X11_keptCut 55 rfl) rfl ?_
  have hi := h.1
  have h := h.2
  refine x_iald (tk K_X11_keptCut 56 rfl) (RfS.k23 hS) hi ?_
  refine x_iadd (tk K_X11_keptCut 57 rfl) ?_
  have h := h _ rfl
  refine x_istore_n (L' := [some (vR _), some (vI _), some (vI _), some (vI _), some (vI _)]) (tk K_X11_keptCut 58 rfl) rfl rfl (Nat.le_of_ble_eq_true rfl) rfl ?_
  refine x_iincW (L' := [some (vR _), some (vI _), some (vI _), some (vI _), some (vI _)]) (tk K_X11_keptCut 59 rfl) rfl ic_1 rfl (Nat.le_of_ble_eq_true rfl) rfl ?_
  refine x_goto (t := 26) (tk K_X11_keptCut 60 rfl) rfl ?_
  refine x_msk [true, true, true, true, false] ?_
  exact h

theorem e_X11_keptCut {X : Cx} {d kc ns : Nat} {M : Mem} {Q : Option AV → Mem → Prop} (h : WA X d kc ns m_X11_keptCut 0 [some (vR 75), none, none, none, none] [] M Q) : Cl X d kc ns m_X11_keptCut [vR 75] M Q := Cl.intro (k := 4) (by decide) rfl rfl h

-- TwoPencilsModel.endedOf(II)I
theorem b_X11_endedOf_0 {X : Cx} {d kc ns : Nat} {M : Mem} {Q : Option AV → Mem → Prop} {l1 : Int32} {l2 : Int32} (hS : RfS M) (hd : 1 ≤ d)
    (h : Cl X (d - 1) 0 0 m_X11_startGame [vR 75, vI l1, vI l2, vI (nI 0)] M (fun r M1 => r = none ∧ Ext M M1 ∧ Cl X (d - 1) 0 0 m_X11_begin [vR 75, vI (nI 0)] M1 (fun r M2 => r = none ∧ Ext M1 M2 ∧ WA X d kc ns m_X11_endedOf 12 [some (vR 75), none, none] [] M2 Q))) :
    WA X d kc ns m_X11_endedOf 0 [some (vR 75), some (vI l1), some (vI l2)] [] M Q := by
  refine x_aload_n (tk K_X11_endedOf 0 rfl) rfl rfl ?_
  refine x_iload_n (tk K_X11_endedOf 1 rfl) rfl rfl ?_
  refine x_iload_n (tk K_X11_endedOf 2 rfl) rfl rfl ?_
  refine x_iconst (tk K_X11_endedOf 3 rfl) ic_0 ?_
  refine x_callV0 (As := [vI _, vI _, vI _]) (S := []) (tk K_X11_endedOf 4 rfl) mk_X11_439 mo_X11_startGame (RfS.o hS) rfl rfl (Nat.le_of_ble_eq_true rfl) hd h (fun r M1 hq => ?_)
  obtain ⟨rfl, hE, h⟩ := hq
  have hT0 := RfS.ext hS hE
  refine x_aload_n (tk K_X11_endedOf 5 rfl) rfl rfl ?_
  refine x_iconst (tk K_X11_endedOf 6 rfl) ic_0 ?_
  refine x_callV0 (As := [vI _]) (S := []) (tk K_X11_endedOf 7 rfl) mk_X11_457 mo_X11_begin (RfS.o hT0) rfl rfl (Nat.le_of_ble_eq_true rfl) hd h (fun r M2 hq => ?_)
  obtain ⟨rfl, hE, h⟩ := hq
  have hT1 := RfS.ext hT0 hE
  refine x_msk [true, false, false] ?_
  exact h

theorem b_X11_endedOf_12 {X : Cx} {d kc ns : Nat} {M : Mem} {Q : Option AV → Mem → Prop} (hS : RfS M) (hd : 1 ≤ d)
    (h : (((nI 8) ≤ (mI M 75 29) → ((¬ (mI M 75 29) = (nI 9) → Cl X (d - 1) 0 0 m_X11_keptCut [vR 75] M (fun r M1 => ∃ x1 : Int32, r = some (vI x1) ∧ Ext M M1 ∧ Q (some (vI x1)) M1)) ∧ ((mI M 75 29) = (nI 9) → Q (some (vI (-1))) M))) ∧ (¬ (nI 8) ≤ (mI M 75 29) → Cl X (d - 1) 0 0 m_X11_seekBest [vR 75] M (fun r M2 => ∃ x2 : Int32, r = some (vI x2) ∧ Ext M M2 ∧ Cl X (d - 1) 0 0 m_X11_makeMove [vR 75, vI x2, vI (-1)] M2 (fun r M3 => r = none ∧ Ext M2 M3 ∧ WA X d kc ns m_X11_endedOf 12 [some (vR 75), none, none] [] M3 Q))))) :
    WA X d kc ns m_X11_endedOf 12 [some (vR 75), none, none] [] M Q := by
  refine x_aload_n (tk K_X11_endedOf 8 rfl) rfl rfl ?_
  refine x_getI (tk K_X11_endedOf 9 rfl) f_X11_300 rfl (RfS.o hS) ?_
  refine x_bipush (tk K_X11_endedOf 10 rfl) bp_8 ?_
  refine x_icmp_ge (t := 33) (tk K_X11_endedOf 11 rfl) rfl (fun hc => ?_) (fun hc => ?_)
  · have h := h.1 hc
    refine x_aload_n (tk K_X11_endedOf 18 rfl) rfl rfl ?_
    refine x_getI (tk K_X11_endedOf 19 rfl) f_X11_300 rfl (RfS.o hS) ?_
    refine x_bipush (tk K_X11_endedOf 20 rfl) bp_9 ?_
    refine x_icmp_ne (t := 46) (tk K_X11_endedOf 21 rfl) rfl (fun hc => ?_) (fun hc => ?_)
    · have h := h.1 hc
      refine x_aload_n (tk K_X11_endedOf 24 rfl) rfl rfl ?_
      refine x_callV0 (As := []) (S := []) (tk K_X11_endedOf 25 rfl) mk_X11_469 mo_X11_keptCut (RfS.o hS) rfl rfl (Nat.le_of_ble_eq_true rfl) hd h (fun r M1 hq => ?_)
      obtain ⟨x1, rfl, hE, h⟩ := hq
      have hT0 := RfS.ext hS hE
      exact x_ireturn (tk K_X11_endedOf 26 rfl) rfl rfl h
    · have h := h.2 hc
      refine x_iconst (tk K_X11_endedOf 22 rfl) ic_m1 ?_
      refine x_goto (t := 50) (tk K_X11_endedOf 23 rfl) rfl ?_
      exact x_ireturn (tk K_X11_endedOf 26 rfl) rfl rfl h
  · have h := h.2 hc
    refine x_aload_n (tk K_X11_endedOf 12 rfl) rfl rfl ?_
    refine x_aload_n (tk K_X11_endedOf 13 rfl) rfl rfl ?_
    refine x_callV0 (As := []) (S := [vR _]) (tk K_X11_endedOf 14 rfl) mk_X11_433 mo_X11_seekBest (RfS.o hS) rfl rfl (Nat.le_of_ble_eq_true rfl) hd h (fun r M2 hq => ?_)
    obtain ⟨x2, rfl, hE, h⟩ := hq
    have hT1 := RfS.ext hS hE
    refine x_iconst (tk K_X11_endedOf 15 rfl) ic_m1 ?_
    refine x_callV0 (As := [vI _, vI _]) (S := []) (tk K_X11_endedOf 16 rfl) mk_X11_442 mo_X11_makeMove (RfS.o hT1) rfl rfl (Nat.le_of_ble_eq_true rfl) hd h (fun r M3 hq => ?_)
    obtain ⟨rfl, hE, h⟩ := hq
    have hT2 := RfS.ext hT1 hE
    refine x_goto (t := 12) (tk K_X11_endedOf 17 rfl) rfl ?_
    exact h

theorem e_X11_endedOf {X : Cx} {d kc ns : Nat} {M : Mem} {Q : Option AV → Mem → Prop} {a1 : Int32} {a2 : Int32} (h : WA X d kc ns m_X11_endedOf 0 [some (vR 75), some (vI a1), some (vI a2)] [] M Q) : Cl X d kc ns m_X11_endedOf [vR 75, vI a1, vI a2] M Q := Cl.intro (k := 0) (by decide) rfl rfl h

-- TwoPencilsModel.ended(II)I
theorem b_X11_ended_0 {X : Cx} {d kc ns : Nat} {M : Mem} {Q : Option AV → Mem → Prop} {l1 : Int32} {l2 : Int32} (hS : RfS M) (hd : 1 ≤ d)
    (h : Cl X (d - 1) 0 0 m_X11_isBoth [vR 75, vI l1, vI l2] M (fun r M1 => ∃ x1 : Int32, r = some (vI x1) ∧ Ext M M1 ∧ ((x1 = nI 0 → Q (some (vI (-1))) M1) ∧ (¬ x1 = nI 0 → Cl X (d - 1) 0 0 m_X11_endedOf [vR 75, vI l1, vI l2] M1 (fun r M2 => ∃ x2 : Int32, r = some (vI x2) ∧ Ext M1 M2 ∧ Q (some (vI x2)) M2))))) :
    WA X d kc ns m_X11_ended 0 [some (vR 75), some (vI l1), some (vI l2)] [] M Q := by
  refine x_aload_n (tk K_X11_ended 0 rfl) rfl rfl ?_
  refine x_iload_n (tk K_X11_ended 1 rfl) rfl rfl ?_
  refine x_iload_n (tk K_X11_ended 2 rfl) rfl rfl ?_
  refine x_callV0 (As := [vI _, vI _]) (S := []) (tk K_X11_ended 3 rfl) mk_X11_463 mo_X11_isBoth (RfS.o hS) rfl rfl (Nat.le_of_ble_eq_true rfl) hd h (fun r M1 hq => ?_)
  obtain ⟨x1, rfl, hE, h⟩ := hq
  have hT0 := RfS.ext hS hE
  refine x_if_eq (t := 18) (tk K_X11_ended 4 rfl) rfl (fun hc => ?_) (fun hc => ?_)
  · have h := h.1 hc
    refine x_iconst (tk K_X11_ended 10 rfl) ic_m1 ?_
    exact x_ireturn (tk K_X11_ended 11 rfl) rfl rfl h
  · have h := h.2 hc
    refine x_aload_n (tk K_X11_ended 5 rfl) rfl rfl ?_
    refine x_iload_n (tk K_X11_ended 6 rfl) rfl rfl ?_
    refine x_iload_n (tk K_X11_ended 7 rfl) rfl rfl ?_
    refine x_callV0 (As := [vI _, vI _]) (S := []) (tk K_X11_ended 8 rfl) mk_X11_472 mo_X11_endedOf (RfS.o hT0) rfl rfl (Nat.le_of_ble_eq_true rfl) hd h (fun r M2 hq => ?_)
    obtain ⟨x2, rfl, hE, h⟩ := hq
    have hT1 := RfS.ext hT0 hE
    refine x_goto (t := 19) (tk K_X11_ended 9 rfl) rfl ?_
    exact x_ireturn (tk K_X11_ended 11 rfl) rfl rfl h

theorem e_X11_ended {X : Cx} {d kc ns : Nat} {M : Mem} {Q : Option AV → Mem → Prop} {a1 : Int32} {a2 : Int32} (h : WA X d kc ns m_X11_ended 0 [some (vR 75), some (vI a1), some (vI a2)] [] M Q) : Cl X d kc ns m_X11_ended [vR 75, vI a1, vI a2] M Q := Cl.intro (k := 0) (by decide) rfl rfl h

-- TwoPencilsModel.first(II)I
theorem b_X11_first_0 {X : Cx} {d kc ns : Nat} {M : Mem} {Q : Option AV → Mem → Prop} {l1 : Int32} {l2 : Int32} (hS : RfS M) (hd : 1 ≤ d)
    (h : Cl X (d - 1) 0 0 m_X11_isBoth [vR 75, vI l1, vI l2] M (fun r M1 => ∃ x1 : Int32, r = some (vI x1) ∧ Ext M M1 ∧ ((x1 = nI 0 → Q (some (vI (-100))) M1) ∧ (¬ x1 = nI 0 → Cl X (d - 1) 0 0 m_X11_sureOf [vR 75, vI l1, vI l2, vI (nI 0), vI (nI 0)] M1 (fun r M2 => ∃ x2 : Int32, r = some (vI x2) ∧ Ext M1 M2 ∧ Cl X (d - 1) 0 0 m_X11_sureOf [vR 75, vI l1, vI l2, vI (nI 0), vI (nI 1)] M2 (fun r M3 => ∃ x3 : Int32, r = some (vI x3) ∧ Ext M2 M3 ∧ Q (some (vI (x2 - x3))) M3)))))) :
    WA X d kc ns m_X11_first 0 [some (vR 75), some (vI l1), some (vI l2)] [] M Q := by
  refine x_aload_n (tk K_X11_first 0 rfl) rfl rfl ?_
  refine x_iload_n (tk K_X11_first 1 rfl) rfl rfl ?_
  refine x_iload_n (tk K_X11_first 2 rfl) rfl rfl ?_
  refine x_callV0 (As := [vI _, vI _]) (S := []) (tk K_X11_first 3 rfl) mk_X11_463 mo_X11_isBoth (RfS.o hS) rfl rfl (Nat.le_of_ble_eq_true rfl) hd h (fun r M1 hq => ?_)
  obtain ⟨x1, rfl, hE, h⟩ := hq
  have hT0 := RfS.ext hS hE
  refine x_if_eq (t := 29) (tk K_X11_first 4 rfl) rfl (fun hc => ?_) (fun hc => ?_)
  · have h := h.1 hc
    refine x_bipush (tk K_X11_first 19 rfl) bp_m100 ?_
    exact x_ireturn (tk K_X11_first 20 rfl) rfl rfl h
  · have h := h.2 hc
    refine x_aload_n (tk K_X11_first 5 rfl) rfl rfl ?_
    refine x_iload_n (tk K_X11_first 6 rfl) rfl rfl ?_
    refine x_iload_n (tk K_X11_first 7 rfl) rfl rfl ?_
    refine x_iconst (tk K_X11_first 8 rfl) ic_0 ?_
    refine x_iconst (tk K_X11_first 9 rfl) ic_0 ?_
    refine x_callV0 (As := [vI _, vI _, vI _, vI _]) (S := []) (tk K_X11_first 10 rfl) mk_X11_466 mo_X11_sureOf (RfS.o hT0) rfl rfl (Nat.le_of_ble_eq_true rfl) hd h (fun r M2 hq => ?_)
    obtain ⟨x2, rfl, hE, h⟩ := hq
    have hT1 := RfS.ext hT0 hE
    refine x_aload_n (tk K_X11_first 11 rfl) rfl rfl ?_
    refine x_iload_n (tk K_X11_first 12 rfl) rfl rfl ?_
    refine x_iload_n (tk K_X11_first 13 rfl) rfl rfl ?_
    refine x_iconst (tk K_X11_first 14 rfl) ic_0 ?_
    refine x_iconst (tk K_X11_first 15 rfl) ic_1 ?_
    refine x_callV0 (As := [vI _, vI _, vI _, vI _]) (S := [vI _]) (tk K_X11_first 16 rfl) mk_X11_466 mo_X11_sureOf (RfS.o hT1) rfl rfl (Nat.le_of_ble_eq_true rfl) hd h (fun r M3 hq => ?_)
    obtain ⟨x3, rfl, hE, h⟩ := hq
    have hT2 := RfS.ext hT1 hE
    refine x_isub (tk K_X11_first 17 rfl) ?_
    refine x_goto (t := 31) (tk K_X11_first 18 rfl) rfl ?_
    exact x_ireturn (tk K_X11_first 20 rfl) rfl rfl h

theorem e_X11_first {X : Cx} {d kc ns : Nat} {M : Mem} {Q : Option AV → Mem → Prop} {a1 : Int32} {a2 : Int32} (h : WA X d kc ns m_X11_first 0 [some (vR 75), some (vI a1), some (vI a2)] [] M Q) : Cl X d kc ns m_X11_first [vR 75, vI a1, vI a2] M Q := Cl.intro (k := 0) (by decide) rfl rfl h

-- TwoPencilsModel.findFar(III)Z
theorem b_X11_findFar_0 {X : Cx} {d kc ns : Nat} {M : Mem} {Q : Option AV → Mem → Prop} {l1 : Int32} {l2 : Int32} {l3 : Int32} (hS : RfS M) (hd : 1 ≤ d)
    (h : Cl X (d - 1) 0 0 m_X11_endedOf [vR 75, vI l2, vI l3] M (fun r M1 => ∃ x1 : Int32, r = some (vI x1) ∧ Ext M M1 ∧ ((¬ x1 = (-1) → Cl X (d - 1) 0 0 m_X11_farOf [vR 75, vI x1, vI (nI 0), vI (nI 0)] M1 (fun r M2 => ∃ x2 : Int32, r = some (vI x2) ∧ Ext M1 M2 ∧ vp_in l1 2 ∧ ∀ M3 : Mem, M3 = sI M2 102 (ix l1) x2 → Cl X (d - 1) 0 0 m_X11_farOf [vR 75, vI x1, vI (nI 0), vI (nI 1)] M3 (fun r M4 => ∃ x3 : Int32, r = some (vI x3) ∧ Ext M3 M4 ∧ vp_in l1 2 ∧ ∀ M5 : Mem, M5 = sI M4 103 (ix l1) x3 → Q (some (vI (nI 1))) M5))) ∧ (x1 = (-1) → Q (some (vI (nI 0))) M1)))) :
    WA X d kc ns m_X11_findFar 0 [some (vR 75), some (vI l1), some (vI l2), some (vI l3), none] [] M Q := by
  refine x_aload_n (tk K_X11_findFar 0 rfl) rfl rfl ?_
  refine x_iload_n (tk K_X11_findFar 1 rfl) rfl rfl ?_
  refine x_iload_n (tk K_X11_findFar 2 rfl) rfl rfl ?_
  refine x_callV0 (As := [vI _, vI _]) (S := []) (tk K_X11_findFar 3 rfl) mk_X11_472 mo_X11_endedOf (RfS.o hS) rfl rfl (Nat.le_of_ble_eq_true rfl) hd h (fun r M1 hq => ?_)
  obtain ⟨x1, rfl, hE, h⟩ := hq
  have hT0 := RfS.ext hS hE
  refine x_istore (L' := [some (vR _), some (vI _), some (vI _), some (vI _), some (vI _)]) (tk K_X11_findFar 4 rfl) rfl (Nat.le_of_ble_eq_true rfl) rfl ?_
  refine x_iload (tk K_X11_findFar 5 rfl) rfl ?_
  refine x_iconst (tk K_X11_findFar 6 rfl) ic_m1 ?_
  refine x_icmp_ne (t := 16) (tk K_X11_findFar 7 rfl) rfl (fun hc => ?_) (fun hc => ?_)
  · have h := h.1 hc
    refine x_aload_n (tk K_X11_findFar 10 rfl) rfl rfl ?_
    refine x_getRc (tk K_X11_findFar 11 rfl) f_X11_90 rfl (RfS.o hT0) (RfS.r52 hT0) ?_
    refine x_iload_n (tk K_X11_findFar 12 rfl) rfl rfl ?_
    refine x_aload_n (tk K_X11_findFar 13 rfl) rfl rfl ?_
    refine x_iload (tk K_X11_findFar 14 rfl) rfl ?_
    refine x_iconst (tk K_X11_findFar 15 rfl) ic_0 ?_
    refine x_iconst (tk K_X11_findFar 16 rfl) ic_0 ?_
    refine x_callV0 (As := [vI _, vI _, vI _]) (S := [vI _, vR _]) (tk K_X11_findFar 17 rfl) mk_X11_245 mo_X11_farOf (RfS.o hT0) rfl rfl (Nat.le_of_ble_eq_true rfl) hd h (fun r M2 hq => ?_)
    obtain ⟨x2, rfl, hE, h⟩ := hq
    have hT1 := RfS.ext hT0 hE
    have hT2 := hE.1 _ _ _ (RfS.k52 hT0)
    have hi := h.1
    have h := h.2
    have h := h _ rfl
    refine x_iast (tk K_X11_findFar 18 rfl) hT2 hi ?_
    refine x_aload_n (tk K_X11_findFar 19 rfl) rfl rfl ?_
    refine x_getRc (tk K_X11_findFar 20 rfl) f_X11_93 rfl (RfS.o hT1) (RfS.r53 hT1) ?_
    refine x_iload_n (tk K_X11_findFar 21 rfl) rfl rfl ?_
    refine x_aload_n (tk K_X11_findFar 22 rfl) rfl rfl ?_
    refine x_iload (tk K_X11_findFar 23 rfl) rfl ?_
    refine x_iconst (tk K_X11_findFar 24 rfl) ic_0 ?_
    refine x_iconst (tk K_X11_findFar 25 rfl) ic_1 ?_
    refine x_callV0 (As := [vI _, vI _, vI _]) (S := [vI _, vR _]) (tk K_X11_findFar 26 rfl) mk_X11_245 mo_X11_farOf (RfS.o hT1) rfl rfl (Nat.le_of_ble_eq_true rfl) hd h (fun r M4 hq => ?_)
    obtain ⟨x3, rfl, hE, h⟩ := hq
    have hT3 := RfS.ext hT1 hE
    have hT4 := hE.1 _ _ _ hT2
    have hT5 := hE.1 _ _ _ (RfS.k53 hT1)
    have hi := h.1
    have h := h.2
    have h := h _ rfl
    refine x_iast (tk K_X11_findFar 27 rfl) hT5 hi ?_
    refine x_iconst (tk K_X11_findFar 28 rfl) ic_1 ?_
    exact x_ireturn (tk K_X11_findFar 29 rfl) rfl (fitZ (Or.inr rfl)).1 h
  · have h := h.2 hc
    refine x_iconst (tk K_X11_findFar 8 rfl) ic_0 ?_
    exact x_ireturn (tk K_X11_findFar 9 rfl) rfl (fitZ (Or.inl rfl)).1 h

theorem e_X11_findFar {X : Cx} {d kc ns : Nat} {M : Mem} {Q : Option AV → Mem → Prop} {a1 : Int32} {a2 : Int32} {a3 : Int32} (h : WA X d kc ns m_X11_findFar 0 [some (vR 75), some (vI a1), some (vI a2), some (vI a3), none] [] M Q) : Cl X d kc ns m_X11_findFar [vR 75, vI a1, vI a2, vI a3] M Q := Cl.intro (k := 1) (by decide) rfl rfl h

-- TwoPencilsModel.isFarther(II)Z
theorem b_X11_isFarther_0 {X : Cx} {d kc ns : Nat} {M : Mem} {Q : Option AV → Mem → Prop} {l1 : Int32} {l2 : Int32} (hS : RfS M)
    (h : vp_in l1 2 ∧ vp_in l2 2 ∧ vp_in l2 2 ∧ vp_in l1 2 ∧ (((lcmpV ((Int32.toInt64 (mI M 102 (ix l1))) * (Int32.toInt64 (mI M 103 (ix l2)))) ((Int32.toInt64 (mI M 102 (ix l2))) * (Int32.toInt64 (mI M 103 (ix l1))))) ≤ nI 0 → Q (some (vI (nI 0))) M) ∧ (¬ (lcmpV ((Int32.toInt64 (mI M 102 (ix l1))) * (Int32.toInt64 (mI M 103 (ix l2)))) ((Int32.toInt64 (mI M 102 (ix l2))) * (Int32.toInt64 (mI M 103 (ix l1))))) ≤ nI 0 → Q (some (vI (nI 1))) M))) :
    WA X d kc ns m_X11_isFarther 0 [some (vR 75), some (vI l1), some (vI l2)] [] M Q := by
  refine x_aload_n (tk K_X11_isFarther 0 rfl) rfl rfl ?_
  refine x_getRc (tk K_X11_isFarther 1 rfl) f_X11_90 rfl (RfS.o hS) (RfS.r52 hS) ?_
  refine x_iload_n (tk K_X11_isFarther 2 rfl) rfl rfl ?_
  have hi := h.1
  have h := h.2
  refine x_iald (tk K_X11_isFarther 3 rfl) (RfS.k52 hS) hi ?_
  refine x_i2l (tk K_X11_isFarther 4 rfl) ?_
  refine x_aload_n (tk K_X11_isFarther 5 rfl) rfl rfl ?_
  refine x_getRc (tk K_X11_isFarther 6 rfl) f_X11_93 rfl (RfS.o hS) (RfS.r53 hS) ?_
  refine x_iload_n (tk K_X11_isFarther 7 rfl) rfl rfl ?_
  have hi := h.1
  have h := h.2
  refine x_iald (tk K_X11_isFarther 8 rfl) (RfS.k53 hS) hi ?_
  refine x_i2l (tk K_X11_isFarther 9 rfl) ?_
  refine x_lmul (tk K_X11_isFarther 10 rfl) ?_
  refine x_aload_n (tk K_X11_isFarther 11 rfl) rfl rfl ?_
  refine x_getRc (tk K_X11_isFarther 12 rfl) f_X11_90 rfl (RfS.o hS) (RfS.r52 hS) ?_
  refine x_iload_n (tk K_X11_isFarther 13 rfl) rfl rfl ?_
  have hi := h.1
  have h := h.2
  refine x_iald (tk K_X11_isFarther 14 rfl) (RfS.k52 hS) hi ?_
  refine x_i2l (tk K_X11_isFarther 15 rfl) ?_
  refine x_aload_n (tk K_X11_isFarther 16 rfl) rfl rfl ?_
  refine x_getRc (tk K_X11_isFarther 17 rfl) f_X11_93 rfl (RfS.o hS) (RfS.r53 hS) ?_
  refine x_iload_n (tk K_X11_isFarther 18 rfl) rfl rfl ?_
  have hi := h.1
  have h := h.2
  refine x_iald (tk K_X11_isFarther 19 rfl) (RfS.k53 hS) hi ?_
  refine x_i2l (tk K_X11_isFarther 20 rfl) ?_
  refine x_lmul (tk K_X11_isFarther 21 rfl) ?_
  refine x_lcmp (tk K_X11_isFarther 22 rfl) ?_
  refine x_if_le (t := 38) (tk K_X11_isFarther 23 rfl) rfl (fun hc => ?_) (fun hc => ?_)
  · have h := h.1 hc
    refine x_iconst (tk K_X11_isFarther 26 rfl) ic_0 ?_
    exact x_ireturn (tk K_X11_isFarther 27 rfl) rfl (fitZ (Or.inl rfl)).1 h
  · have h := h.2 hc
    refine x_iconst (tk K_X11_isFarther 24 rfl) ic_1 ?_
    refine x_goto (t := 39) (tk K_X11_isFarther 25 rfl) rfl ?_
    exact x_ireturn (tk K_X11_isFarther 27 rfl) rfl (fitZ (Or.inr rfl)).1 h

theorem e_X11_isFarther {X : Cx} {d kc ns : Nat} {M : Mem} {Q : Option AV → Mem → Prop} {a1 : Int32} {a2 : Int32} (h : WA X d kc ns m_X11_isFarther 0 [some (vR 75), some (vI a1), some (vI a2)] [] M Q) : Cl X d kc ns m_X11_isFarther [vR 75, vI a1, vI a2] M Q := Cl.intro (k := 0) (by decide) rfl rfl h

-- TwoPencilsModel.worst(I)I
theorem b_X11_worst_0 {X : Cx} {d kc ns : Nat} {M : Mem} {Q : Option AV → Mem → Prop} {l1 : Int32} (hS : RfS M) (hd : 1 ≤ d)
    (h : Cl X (d - 1) 0 0 m_X11_in [vI l1, vI (nI 0), vI ((mI M 75 16) - (nI 1))] M (fun r M1 => ∃ x1 : Int32, r = some (vI x1) ∧ Ext M M1 ∧ ((¬ x1 = nI 0 → WA X d kc ns m_X11_worst 20 [some (vR 75), some (vI l1), some (vI (-1)), some (vI (nI 0))] [] M1 Q) ∧ (x1 = nI 0 → Q (some (vI (-1))) M1)))) :
    WA X d kc ns m_X11_worst 0 [some (vR 75), some (vI l1), none, none] [] M Q := by
  refine x_iload_n (tk K_X11_worst 0 rfl) rfl rfl ?_
  refine x_iconst (tk K_X11_worst 1 rfl) ic_0 ?_
  refine x_aload_n (tk K_X11_worst 2 rfl) rfl rfl ?_
  refine x_getI (tk K_X11_worst 3 rfl) f_X11_165 rfl (RfS.o hS) ?_
  refine x_iconst (tk K_X11_worst 4 rfl) ic_1 ?_
  refine x_isub (tk K_X11_worst 5 rfl) ?_
  refine x_callS0 (As := [vI _, vI _, vI _]) (S := []) (tk K_X11_worst 6 rfl) mk_X11_125 mo_X11_in rfl rfl (Nat.le_of_ble_eq_true rfl) hd h (fun r M1 hq => ?_)
  obtain ⟨x1, rfl, hE, h⟩ := hq
  have hT0 := RfS.ext hS hE
  refine x_if_ne (t := 16) (tk K_X11_worst 7 rfl) rfl (fun hc => ?_) (fun hc => ?_)
  · have h := h.1 hc
    refine x_iconst (tk K_X11_worst 10 rfl) ic_m1 ?_
    refine x_istore_n (L' := [some (vR _), some (vI _), some (vI _), none]) (tk K_X11_worst 11 rfl) rfl rfl (Nat.le_of_ble_eq_true rfl) rfl ?_
    refine x_iconst (tk K_X11_worst 12 rfl) ic_0 ?_
    refine x_istore_n (L' := [some (vR _), some (vI _), some (vI _), some (vI _)]) (tk K_X11_worst 13 rfl) rfl rfl (Nat.le_of_ble_eq_true rfl) rfl ?_
    exact h
  · have h := h.2 hc
    refine x_iconst (tk K_X11_worst 8 rfl) ic_m1 ?_
    exact x_ireturn (tk K_X11_worst 9 rfl) rfl rfl h

theorem b_X11_worst_20 {X : Cx} {d kc ns : Nat} {M : Mem} {Q : Option AV → Mem → Prop} {l1 : Int32} {l2 : Int32} {l3 : Int32} (hS : RfS M) (hd : 1 ≤ d)
    (h : (((mI M 75 12) ≤ l3 → Q (some (vI l2)) M) ∧ (¬ (mI M 75 12) ≤ l3 → Cl X (d - 1) 0 0 m_X11_findFar [vR 75, vI (nI 0), vI l3, vI l1] M (fun r M1 => ∃ x1 : Int32, r = some (vI x1) ∧ Ext M M1 ∧ ((x1 = nI 0 → WA X d kc ns m_X11_worst 20 [some (vR 75), some (vI l1), some (vI l2), some (vI (l3 + (nI 1)))] [] M1 Q) ∧ (¬ x1 = nI 0 → ((l2 = (-1) → WA X d kc ns m_X11_worst 52 [some (vR 75), some (vI l1), none, some (vI l3)] [] M1 Q) ∧ (¬ l2 = (-1) → Cl X (d - 1) 0 0 m_X11_isFarther [vR 75, vI (nI 0), vI (nI 1)] M1 (fun r M2 => ∃ x2 : Int32, r = some (vI x2) ∧ Ext M1 M2 ∧ ((x2 = nI 0 → WA X d kc ns m_X11_worst 20 [some (vR 75), some (vI l1), some (vI l2), some (vI (l3 + (nI 1)))] [] M2 Q) ∧ (¬ x2 = nI 0 → WA X d kc ns m_X11_worst 52 [some (vR 75), some (vI l1), none, some (vI l3)] [] M2 Q))))))))))) :
    WA X d kc ns m_X11_worst 20 [some (vR 75), some (vI l1), some (vI l2), some (vI l3)] [] M Q := by
  refine x_iload_n (tk K_X11_worst 14 rfl) rfl rfl ?_
  refine x_aload_n (tk K_X11_worst 15 rfl) rfl rfl ?_
  refine x_getI (tk K_X11_worst 16 rfl) f_X11_162 rfl (RfS.o hS) ?_
  refine x_icmp_ge (t := 84) (tk K_X11_worst 17 rfl) rfl (fun hc => ?_) (fun hc => ?_)
  · have h := h.1 hc
    refine x_iload_n (tk K_X11_worst 52 rfl) rfl rfl ?_
    exact x_ireturn (tk K_X11_worst 53 rfl) rfl rfl h
  · have h := h.2 hc
    refine x_aload_n (tk K_X11_worst 18 rfl) rfl rfl ?_
    refine x_iconst (tk K_X11_worst 19 rfl) ic_0 ?_
    refine x_iload_n (tk K_X11_worst 20 rfl) rfl rfl ?_
    refine x_iload_n (tk K_X11_worst 21 rfl) rfl rfl ?_
    refine x_callV0 (As := [vI _, vI _, vI _]) (S := []) (tk K_X11_worst 22 rfl) mk_X11_475 mo_X11_findFar (RfS.o hS) rfl rfl (Nat.le_of_ble_eq_true rfl) hd h (fun r M1 hq => ?_)
    obtain ⟨x1, rfl, hE, h⟩ := hq
    have hT0 := RfS.ext hS hE
    refine x_if_eq (t := 78) (tk K_X11_worst 23 rfl) rfl (fun hc => ?_) (fun hc => ?_)
    · have h := h.1 hc
      refine x_iincW (L' := [some (vR _), some (vI _), some (vI _), some (vI _)]) (tk K_X11_worst 50 rfl) rfl ic_1 rfl (Nat.le_of_ble_eq_true rfl) rfl ?_
      refine x_goto (t := 20) (tk K_X11_worst 51 rfl) rfl ?_
      exact h
    · have h := h.2 hc
      refine x_iload_n (tk K_X11_worst 24 rfl) rfl rfl ?_
      refine x_iconst (tk K_X11_worst 25 rfl) ic_m1 ?_
      refine x_icmp_eq (t := 52) (tk K_X11_worst 26 rfl) rfl (fun hc => ?_) (fun hc => ?_)
      · have h := h.1 hc
        refine x_msk [true, true, false, true] ?_
        exact h
      · have h := h.2 hc
        refine x_aload_n (tk K_X11_worst 27 rfl) rfl rfl ?_
        refine x_iconst (tk K_X11_worst 28 rfl) ic_0 ?_
        refine x_iconst (tk K_X11_worst 29 rfl) ic_1 ?_
        refine x_callV0 (As := [vI _, vI _]) (S := []) (tk K_X11_worst 30 rfl) mk_X11_478 mo_X11_isFarther (RfS.o hT0) rfl rfl (Nat.le_of_ble_eq_true rfl) hd h (fun r M2 hq => ?_)
        obtain ⟨x2, rfl, hE, h⟩ := hq
        have hT1 := RfS.ext hT0 hE
        refine x_if_eq (t := 78) (tk K_X11_worst 31 rfl) rfl (fun hc => ?_) (fun hc => ?_)
        · have h := h.1 hc
          refine x_iincW (L' := [some (vR _), some (vI _), some (vI _), some (vI _)]) (tk K_X11_worst 50 rfl) rfl ic_1 rfl (Nat.le_of_ble_eq_true rfl) rfl ?_
          refine x_goto (t := 20) (tk K_X11_worst 51 rfl) rfl ?_
          exact h
        · have h := h.2 hc
          refine x_msk [true, true, false, true] ?_
          exact h

theorem b_X11_worst_52 {X : Cx} {d kc ns : Nat} {M : Mem} {Q : Option AV → Mem → Prop} {l1 : Int32} {l3 : Int32} (hS : RfS M)
    (h : ∀ M1 : Mem, M1 = sI M 102 (ix (nI 1)) (mI M 102 (ix (nI 0))) → ∀ M2 : Mem, M2 = sI M1 103 (ix (nI 1)) (mI M1 103 (ix (nI 0))) → WA X d kc ns m_X11_worst 20 [some (vR 75), some (vI l1), some (vI l3), some (vI (l3 + (nI 1)))] [] M2 Q) :
    WA X d kc ns m_X11_worst 52 [some (vR 75), some (vI l1), none, some (vI l3)] [] M Q := by
  refine x_iload_n (tk K_X11_worst 32 rfl) rfl rfl ?_
  refine x_istore_n (L' := [some (vR _), some (vI _), some (vI _), some (vI _)]) (tk K_X11_worst 33 rfl) rfl rfl (Nat.le_of_ble_eq_true rfl) rfl ?_
  refine x_aload_n (tk K_X11_worst 34 rfl) rfl rfl ?_
  refine x_getRc (tk K_X11_worst 35 rfl) f_X11_90 rfl (RfS.o hS) (RfS.r52 hS) ?_
  refine x_iconst (tk K_X11_worst 36 rfl) ic_1 ?_
  refine x_aload_n (tk K_X11_worst 37 rfl) rfl rfl ?_
  refine x_getRc (tk K_X11_worst 38 rfl) f_X11_90 rfl (RfS.o hS) (RfS.r52 hS) ?_
  refine x_iconst (tk K_X11_worst 39 rfl) ic_0 ?_
  refine x_iald (tk K_X11_worst 40 rfl) (RfS.k52 hS) (show vp_in (nI 0) 2 by unfold vp_in; decide) ?_
  have h := h _ rfl
  refine x_iast (tk K_X11_worst 41 rfl) (RfS.k52 hS) (show vp_in (nI 1) 2 by unfold vp_in; decide) ?_
  refine x_aload_n (tk K_X11_worst 42 rfl) rfl rfl ?_
  refine x_getRc (tk K_X11_worst 43 rfl) f_X11_93 rfl (RfS.o hS) (RfS.r53 hS) ?_
  refine x_iconst (tk K_X11_worst 44 rfl) ic_1 ?_
  refine x_aload_n (tk K_X11_worst 45 rfl) rfl rfl ?_
  refine x_getRc (tk K_X11_worst 46 rfl) f_X11_93 rfl (RfS.o hS) (RfS.r53 hS) ?_
  refine x_iconst (tk K_X11_worst 47 rfl) ic_0 ?_
  refine x_iald (tk K_X11_worst 48 rfl) (RfS.k53 hS) (show vp_in (nI 0) 2 by unfold vp_in; decide) ?_
  have h := h _ rfl
  refine x_iast (tk K_X11_worst 49 rfl) (RfS.k53 hS) (show vp_in (nI 1) 2 by unfold vp_in; decide) ?_
  refine x_iincW (L' := [some (vR _), some (vI _), some (vI _), some (vI _)]) (tk K_X11_worst 50 rfl) rfl ic_1 rfl (Nat.le_of_ble_eq_true rfl) rfl ?_
  refine x_goto (t := 20) (tk K_X11_worst 51 rfl) rfl ?_
  exact h

theorem e_X11_worst {X : Cx} {d kc ns : Nat} {M : Mem} {Q : Option AV → Mem → Prop} {a1 : Int32} (h : WA X d kc ns m_X11_worst 0 [some (vR 75), some (vI a1), none, none] [] M Q) : Cl X d kc ns m_X11_worst [vR 75, vI a1] M Q := Cl.intro (k := 2) (by decide) rfl rfl h

-- TwoPencilsModel.worse(II)I
theorem b_X11_worse_0 {X : Cx} {d kc ns : Nat} {M : Mem} {Q : Option AV → Mem → Prop} {l1 : Int32} {l2 : Int32} (hS : RfS M) (hd : 1 ≤ d)
    (h : Cl X (d - 1) 0 0 m_X11_in [vI l1, vI (nI 0), vI ((mI M 75 16) - (nI 1))] M (fun r M1 => ∃ x1 : Int32, r = some (vI x1) ∧ Ext M M1 ∧ ((x1 = nI 0 → Q (some (vI (-1))) M1) ∧ (¬ x1 = nI 0 → Cl X (d - 1) 0 0 m_X11_in [vI l2, vI (nI 0), vI ((mI M1 75 16) - (nI 1))] M1 (fun r M2 => ∃ x2 : Int32, r = some (vI x2) ∧ Ext M1 M2 ∧ ((¬ x2 = nI 0 → WA X d kc ns m_X11_worse 35 [some (vR 75), some (vI l1), some (vI l2), some (vI (nI 0)), some (vI (nI 0))] [] M2 Q) ∧ (x2 = nI 0 → Q (some (vI (-1))) M2))))))) :
    WA X d kc ns m_X11_worse 0 [some (vR 75), some (vI l1), some (vI l2), none, none] [] M Q := by
  refine x_iload_n (tk K_X11_worse 0 rfl) rfl rfl ?_
  refine x_iconst (tk K_X11_worse 1 rfl) ic_0 ?_
  refine x_aload_n (tk K_X11_worse 2 rfl) rfl rfl ?_
  refine x_getI (tk K_X11_worse 3 rfl) f_X11_165 rfl (RfS.o hS) ?_
  refine x_iconst (tk K_X11_worse 4 rfl) ic_1 ?_
  refine x_isub (tk K_X11_worse 5 rfl) ?_
  refine x_callS0 (As := [vI _, vI _, vI _]) (S := []) (tk K_X11_worse 6 rfl) mk_X11_125 mo_X11_in rfl rfl (Nat.le_of_ble_eq_true rfl) hd h (fun r M1 hq => ?_)
  obtain ⟨x1, rfl, hE, h⟩ := hq
  have hT0 := RfS.ext hS hE
  refine x_if_eq (t := 28) (tk K_X11_worse 7 rfl) rfl (fun hc => ?_) (fun hc => ?_)
  · have h := h.1 hc
    refine x_iconst (tk K_X11_worse 16 rfl) ic_m1 ?_
    exact x_ireturn (tk K_X11_worse 17 rfl) rfl rfl h
  · have h := h.2 hc
    refine x_iload_n (tk K_X11_worse 8 rfl) rfl rfl ?_
    refine x_iconst (tk K_X11_worse 9 rfl) ic_0 ?_
    refine x_aload_n (tk K_X11_worse 10 rfl) rfl rfl ?_
    refine x_getI (tk K_X11_worse 11 rfl) f_X11_165 rfl (RfS.o hT0) ?_
    refine x_iconst (tk K_X11_worse 12 rfl) ic_1 ?_
    refine x_isub (tk K_X11_worse 13 rfl) ?_
    refine x_callS0 (As := [vI _, vI _, vI _]) (S := []) (tk K_X11_worse 14 rfl) mk_X11_125 mo_X11_in rfl rfl (Nat.le_of_ble_eq_true rfl) hd h (fun r M2 hq => ?_)
    obtain ⟨x2, rfl, hE, h⟩ := hq
    have hT1 := RfS.ext hT0 hE
    refine x_if_ne (t := 30) (tk K_X11_worse 15 rfl) rfl (fun hc => ?_) (fun hc => ?_)
    · have h := h.1 hc
      refine x_iconst (tk K_X11_worse 18 rfl) ic_0 ?_
      refine x_istore_n (L' := [some (vR _), some (vI _), some (vI _), some (vI _), none]) (tk K_X11_worse 19 rfl) rfl rfl (Nat.le_of_ble_eq_true rfl) rfl ?_
      refine x_iconst (tk K_X11_worse 20 rfl) ic_0 ?_
      refine x_istore (L' := [some (vR _), some (vI _), some (vI _), some (vI _), some (vI _)]) (tk K_X11_worse 21 rfl) rfl (Nat.le_of_ble_eq_true rfl) rfl ?_
      exact h
    · have h := h.2 hc
      refine x_iconst (tk K_X11_worse 16 rfl) ic_m1 ?_
      exact x_ireturn (tk K_X11_worse 17 rfl) rfl rfl h

theorem b_X11_worse_35 {X : Cx} {d kc ns : Nat} {M : Mem} {Q : Option AV → Mem → Prop} {l1 : Int32} {l2 : Int32} {l3 : Int32} {l4 : Int32} (hS : RfS M) (hd : 1 ≤ d)
    (h : (((mI M 75 12) ≤ l4 → Q (some (vI l3)) M) ∧ (¬ (mI M 75 12) ≤ l4 → Cl X (d - 1) 0 0 m_X11_findFar [vR 75, vI (nI 0), vI l4, vI l1] M (fun r M1 => ∃ x1 : Int32, r = some (vI x1) ∧ Ext M M1 ∧ ((x1 = nI 0 → WA X d kc ns m_X11_worse 83 [some (vR 75), some (vI l1), some (vI l2), none, some (vI l4)] [vI l3] M1 Q) ∧ (¬ x1 = nI 0 → Cl X (d - 1) 0 0 m_X11_findFar [vR 75, vI (nI 1), vI l4, vI l2] M1 (fun r M2 => ∃ x2 : Int32, r = some (vI x2) ∧ Ext M1 M2 ∧ ((x2 = nI 0 → WA X d kc ns m_X11_worse 83 [some (vR 75), some (vI l1), some (vI l2), none, some (vI l4)] [vI l3] M2 Q) ∧ (¬ x2 = nI 0 → Cl X (d - 1) 0 0 m_X11_isFarther [vR 75, vI (nI 0), vI (nI 1)] M2 (fun r M3 => ∃ x3 : Int32, r = some (vI x3) ∧ Ext M2 M3 ∧ ((x3 = nI 0 → WA X d kc ns m_X11_worse 83 [some (vR 75), some (vI l1), some (vI l2), none, some (vI l4)] [vI l3] M3 Q) ∧ (¬ x3 = nI 0 → ∀ x4 : Int32, x4 = (l3 ||| (shl (nI 1) l4)) → WA X d kc ns m_X11_worse 35 [some (vR 75), some (vI l1), some (vI l2), some (vI x4), some (vI (l4 + (nI 1)))] [] M3 Q)))))))))))) :
    WA X d kc ns m_X11_worse 35 [some (vR 75), some (vI l1), some (vI l2), some (vI l3), some (vI l4)] [] M Q := by
  refine x_iload (tk K_X11_worse 22 rfl) rfl ?_
  refine x_aload_n (tk K_X11_worse 23 rfl) rfl rfl ?_
  refine x_getI (tk K_X11_worse 24 rfl) f_X11_162 rfl (RfS.o hS) ?_
  refine x_icmp_ge (t := 92) (tk K_X11_worse 25 rfl) rfl (fun hc => ?_) (fun hc => ?_)
  · have h := h.1 hc
    refine x_iload_n (tk K_X11_worse 53 rfl) rfl rfl ?_
    exact x_ireturn (tk K_X11_worse 54 rfl) rfl rfl h
  · have h := h.2 hc
    refine x_iload_n (tk K_X11_worse 26 rfl) rfl rfl ?_
    refine x_aload_n (tk K_X11_worse 27 rfl) rfl rfl ?_
    refine x_iconst (tk K_X11_worse 28 rfl) ic_0 ?_
    refine x_iload (tk K_X11_worse 29 rfl) rfl ?_
    refine x_iload_n (tk K_X11_worse 30 rfl) rfl rfl ?_
    refine x_callV0 (As := [vI _, vI _, vI _]) (S := [vI _]) (tk K_X11_worse 31 rfl) mk_X11_475 mo_X11_findFar (RfS.o hS) rfl rfl (Nat.le_of_ble_eq_true rfl) hd h (fun r M1 hq => ?_)
    obtain ⟨x1, rfl, hE, h⟩ := hq
    have hT0 := RfS.ext hS hE
    refine x_if_eq (t := 83) (tk K_X11_worse 32 rfl) rfl (fun hc => ?_) (fun hc => ?_)
    · have h := h.1 hc
      refine x_msk [true, true, true, false, true] ?_
      exact h
    · have h := h.2 hc
      refine x_aload_n (tk K_X11_worse 33 rfl) rfl rfl ?_
      refine x_iconst (tk K_X11_worse 34 rfl) ic_1 ?_
      refine x_iload (tk K_X11_worse 35 rfl) rfl ?_
      refine x_iload_n (tk K_X11_worse 36 rfl) rfl rfl ?_
      refine x_callV0 (As := [vI _, vI _, vI _]) (S := [vI _]) (tk K_X11_worse 37 rfl) mk_X11_475 mo_X11_findFar (RfS.o hT0) rfl rfl (Nat.le_of_ble_eq_true rfl) hd h (fun r M2 hq => ?_)
      obtain ⟨x2, rfl, hE, h⟩ := hq
      have hT1 := RfS.ext hT0 hE
      refine x_if_eq (t := 83) (tk K_X11_worse 38 rfl) rfl (fun hc => ?_) (fun hc => ?_)
      · have h := h.1 hc
        refine x_msk [true, true, true, false, true] ?_
        exact h
      · have h := h.2 hc
        refine x_aload_n (tk K_X11_worse 39 rfl) rfl rfl ?_
        refine x_iconst (tk K_X11_worse 40 rfl) ic_0 ?_
        refine x_iconst (tk K_X11_worse 41 rfl) ic_1 ?_
        refine x_callV0 (As := [vI _, vI _]) (S := [vI _]) (tk K_X11_worse 42 rfl) mk_X11_478 mo_X11_isFarther (RfS.o hT1) rfl rfl (Nat.le_of_ble_eq_true rfl) hd h (fun r M3 hq => ?_)
        obtain ⟨x3, rfl, hE, h⟩ := hq
        have hT2 := RfS.ext hT1 hE
        refine x_if_eq (t := 83) (tk K_X11_worse 43 rfl) rfl (fun hc => ?_) (fun hc => ?_)
        · have h := h.1 hc
          refine x_msk [true, true, true, false, true] ?_
          exact h
        · have h := h.2 hc
          refine x_iconst (tk K_X11_worse 44 rfl) ic_1 ?_
          refine x_iload (tk K_X11_worse 45 rfl) rfl ?_
          refine x_ishl (tk K_X11_worse 46 rfl) ?_
          refine x_goto (t := 84) (tk K_X11_worse 47 rfl) rfl ?_
          refine x_ior (tk K_X11_worse 49 rfl) ?_
          have h := h _ rfl
          refine x_istore_n (L' := [some (vR _), some (vI _), some (vI _), some (vI _), some (vI _)]) (tk K_X11_worse 50 rfl) rfl rfl (Nat.le_of_ble_eq_true rfl) rfl ?_
          refine x_iincW (L' := [some (vR _), some (vI _), some (vI _), some (vI _), some (vI _)]) (tk K_X11_worse 51 rfl) rfl ic_1 rfl (Nat.le_of_ble_eq_true rfl) rfl ?_
          refine x_goto (t := 35) (tk K_X11_worse 52 rfl) rfl ?_
          exact h

theorem b_X11_worse_83 {X : Cx} {d kc ns : Nat} {M : Mem} {Q : Option AV → Mem → Prop} {l1 : Int32} {l2 : Int32} {l4 : Int32} {s0 : Int32} (hS : RfS M)
    (h : ∀ x1 : Int32, x1 = (s0 ||| (nI 0)) → WA X d kc ns m_X11_worse 35 [some (vR 75), some (vI l1), some (vI l2), some (vI x1), some (vI (l4 + (nI 1)))] [] M Q) :
    WA X d kc ns m_X11_worse 83 [some (vR 75), some (vI l1), some (vI l2), none, some (vI l4)] [vI s0] M Q := by
  refine x_iconst (tk K_X11_worse 48 rfl) ic_0 ?_
  refine x_ior (tk K_X11_worse 49 rfl) ?_
  have h := h _ rfl
  refine x_istore_n (L' := [some (vR _), some (vI _), some (vI _), some (vI _), some (vI _)]) (tk K_X11_worse 50 rfl) rfl rfl (Nat.le_of_ble_eq_true rfl) rfl ?_
  refine x_iincW (L' := [some (vR _), some (vI _), some (vI _), some (vI _), some (vI _)]) (tk K_X11_worse 51 rfl) rfl ic_1 rfl (Nat.le_of_ble_eq_true rfl) rfl ?_
  refine x_goto (t := 35) (tk K_X11_worse 52 rfl) rfl ?_
  exact h

theorem e_X11_worse {X : Cx} {d kc ns : Nat} {M : Mem} {Q : Option AV → Mem → Prop} {a1 : Int32} {a2 : Int32} (h : WA X d kc ns m_X11_worse 0 [some (vR 75), some (vI a1), some (vI a2), none, none] [] M Q) : Cl X d kc ns m_X11_worse [vR 75, vI a1, vI a2] M Q := Cl.intro (k := 2) (by decide) rfl rfl h

-- TwoPencilsModel.count(I)I
theorem b_X11_count_0 {X : Cx} {d kc ns : Nat} {M : Mem} {Q : Option AV → Mem → Prop} {l1 : Int32} (hS : RfS M)
    (h : WA X d kc ns m_X11_count 4 [some (vR 75), some (vI l1), some (vI (nI 0)), some (vI (nI 0))] [] M Q) :
    WA X d kc ns m_X11_count 0 [some (vR 75), some (vI l1), none, none] [] M Q := by
  refine x_iconst (tk K_X11_count 0 rfl) ic_0 ?_
  refine x_istore_n (L' := [some (vR _), some (vI _), some (vI _), none]) (tk K_X11_count 1 rfl) rfl rfl (Nat.le_of_ble_eq_true rfl) rfl ?_
  refine x_iconst (tk K_X11_count 2 rfl) ic_0 ?_
  refine x_istore_n (L' := [some (vR _), some (vI _), some (vI _), some (vI _)]) (tk K_X11_count 3 rfl) rfl rfl (Nat.le_of_ble_eq_true rfl) rfl ?_
  exact h

theorem b_X11_count_4 {X : Cx} {d kc ns : Nat} {M : Mem} {Q : Option AV → Mem → Prop} {l1 : Int32} {l2 : Int32} {l3 : Int32} (hS : RfS M) (hd : 1 ≤ d)
    (h : (((mI M 75 51) ≤ l3 → (((l1.toInt < 0 ∨ 4 < l1.toInt) → Q (some (vI (-1))) M) ∧ (l1.toInt = 0 → Q (some (vI (mI M 75 12))) M) ∧ (l1.toInt = 1 → Q (some (vI (mI M 75 16))) M) ∧ (l1.toInt = 2 → Q (some (vI (mI M 75 51))) M) ∧ (l1.toInt = 3 → Q (some (vI l2)) M) ∧ (l1.toInt = 4 → Q (some (vI (mI M 75 2))) M))) ∧ (¬ (mI M 75 51) ≤ l3 → Cl X (d - 1) 0 0 m_X11_goThrough [vR 75, vI l3] M (fun r M1 => r = none ∧ Ext M M1 ∧ (((mI M1 75 29) ≤ (nI 7) → ∀ x1 : Int32, x1 = (l2 + (nI 0)) → WA X d kc ns m_X11_count 4 [some (vR 75), some (vI l1), some (vI x1), some (vI (l3 + (nI 1)))] [] M1 Q) ∧ (¬ (mI M1 75 29) ≤ (nI 7) → ∀ x2 : Int32, x2 = (l2 + (nI 1)) → WA X d kc ns m_X11_count 4 [some (vR 75), some (vI l1), some (vI x2), some (vI (l3 + (nI 1)))] [] M1 Q)))))) :
    WA X d kc ns m_X11_count 4 [some (vR 75), some (vI l1), some (vI l2), some (vI l3)] [] M Q := by
  refine x_iload_n (tk K_X11_count 4 rfl) rfl rfl ?_
  refine x_aload_n (tk K_X11_count 5 rfl) rfl rfl ?_
  refine x_getI (tk K_X11_count 6 rfl) f_X11_436 rfl (RfS.o hS) ?_
  refine x_icmp_ge (t := 40) (tk K_X11_count 7 rfl) rfl (fun hc => ?_) (fun hc => ?_)
  · have h := h.1 hc
    refine x_iload_n (tk K_X11_count 23 rfl) rfl rfl ?_
    refine x_table (td := 98) (tk K_X11_count 24 rfl) rfl (fun hc => ?_) (fun k hk hk2 => ?_)
    · have h := h.1 hc
      refine x_iconst (tk K_X11_count 39 rfl) ic_m1 ?_
      exact x_ireturn (tk K_X11_count 40 rfl) rfl rfl h
    · rcases (show k = 0 ∨ k = 1 ∨ k = 2 ∨ k = 3 ∨ k = 4 by omega) with rfl | rfl | rfl | rfl | rfl
      · refine ⟨35, 76, rfl, rfl, ?_⟩
        have h := h.2.1 (by omega)
        refine x_aload_n (tk K_X11_count 25 rfl) rfl rfl ?_
        refine x_getI (tk K_X11_count 26 rfl) f_X11_162 rfl (RfS.o hS) ?_
        exact x_ireturn (tk K_X11_count 27 rfl) rfl rfl h
      · refine ⟨40, 81, rfl, rfl, ?_⟩
        have h := h.2.2.1 (by omega)
        refine x_aload_n (tk K_X11_count 28 rfl) rfl rfl ?_
        refine x_getI (tk K_X11_count 29 rfl) f_X11_165 rfl (RfS.o hS) ?_
        exact x_ireturn (tk K_X11_count 30 rfl) rfl rfl h
      · refine ⟨45, 86, rfl, rfl, ?_⟩
        have h := h.2.2.2.1 (by omega)
        refine x_aload_n (tk K_X11_count 31 rfl) rfl rfl ?_
        refine x_getI (tk K_X11_count 32 rfl) f_X11_436 rfl (RfS.o hS) ?_
        exact x_ireturn (tk K_X11_count 33 rfl) rfl rfl h
      · refine ⟨50, 91, rfl, rfl, ?_⟩
        have h := h.2.2.2.2.1 (by omega)
        refine x_iload_n (tk K_X11_count 34 rfl) rfl rfl ?_
        exact x_ireturn (tk K_X11_count 35 rfl) rfl rfl h
      · refine ⟨52, 93, rfl, rfl, ?_⟩
        have h := h.2.2.2.2.2 (by omega)
        refine x_aload_n (tk K_X11_count 36 rfl) rfl rfl ?_
        refine x_getI (tk K_X11_count 37 rfl) f_X11_104 rfl (RfS.o hS) ?_
        exact x_ireturn (tk K_X11_count 38 rfl) rfl rfl h
  · have h := h.2 hc
    refine x_aload_n (tk K_X11_count 8 rfl) rfl rfl ?_
    refine x_iload_n (tk K_X11_count 9 rfl) rfl rfl ?_
    refine x_callV0 (As := [vI _]) (S := []) (tk K_X11_count 10 rfl) mk_X11_448 mo_X11_goThrough (RfS.o hS) rfl rfl (Nat.le_of_ble_eq_true rfl) hd h (fun r M1 hq => ?_)
    obtain ⟨rfl, hE, h⟩ := hq
    have hT0 := RfS.ext hS hE
    refine x_iload_n (tk K_X11_count 11 rfl) rfl rfl ?_
    refine x_aload_n (tk K_X11_count 12 rfl) rfl rfl ?_
    refine x_getI (tk K_X11_count 13 rfl) f_X11_300 rfl (RfS.o hT0) ?_
    refine x_bipush (tk K_X11_count 14 rfl) bp_7 ?_
    refine x_icmp_le (t := 31) (tk K_X11_count 15 rfl) rfl (fun hc => ?_) (fun hc => ?_)
    · have h := h.1 hc
      refine x_iconst (tk K_X11_count 18 rfl) ic_0 ?_
      refine x_iadd (tk K_X11_count 19 rfl) ?_
      have h := h _ rfl
      refine x_istore_n (L' := [some (vR _), some (vI _), some (vI _), some (vI _)]) (tk K_X11_count 20 rfl) rfl rfl (Nat.le_of_ble_eq_true rfl) rfl ?_
      refine x_iincW (L' := [some (vR _), some (vI _), some (vI _), some (vI _)]) (tk K_X11_count 21 rfl) rfl ic_1 rfl (Nat.le_of_ble_eq_true rfl) rfl ?_
      refine x_goto (t := 4) (tk K_X11_count 22 rfl) rfl ?_
      exact h
    · have h := h.2 hc
      refine x_iconst (tk K_X11_count 16 rfl) ic_1 ?_
      refine x_goto (t := 32) (tk K_X11_count 17 rfl) rfl ?_
      refine x_iadd (tk K_X11_count 19 rfl) ?_
      have h := h _ rfl
      refine x_istore_n (L' := [some (vR _), some (vI _), some (vI _), some (vI _)]) (tk K_X11_count 20 rfl) rfl rfl (Nat.le_of_ble_eq_true rfl) rfl ?_
      refine x_iincW (L' := [some (vR _), some (vI _), some (vI _), some (vI _)]) (tk K_X11_count 21 rfl) rfl ic_1 rfl (Nat.le_of_ble_eq_true rfl) rfl ?_
      refine x_goto (t := 4) (tk K_X11_count 22 rfl) rfl ?_
      exact h

theorem e_X11_count {X : Cx} {d kc ns : Nat} {M : Mem} {Q : Option AV → Mem → Prop} {a1 : Int32} (h : WA X d kc ns m_X11_count 0 [some (vR 75), some (vI a1), none, none] [] M Q) : Cl X d kc ns m_X11_count [vR 75, vI a1] M Q := Cl.intro (k := 2) (by decide) rfl rfl h
