-- TwoPencilsModel.list(III)I
theorem b_X11_list_0 {X : Cx} {d kc ns : Nat} {M : Mem} {Q : Option AV → Mem → Prop} {l1 : Int32} {l2 : Int32} {l3 : Int32} (hS : RfS M)
    (h : ∀ M1 : Mem, M1 = sI M 75 22 (nI 0) → WA X d kc ns m_X11_list 8 [some (vR 75), some (vI l1), some (vI l2), some (vI l3), some (vI (nI 0))] [] M1 Q) :
    WA X d kc ns m_X11_list 0 [some (vR 75), some (vI l1), some (vI l2), some (vI l3), none] [] M Q := by
  refine x_aload_n (tk K_X11_list 0 rfl) rfl rfl ?_
  refine x_iconst (tk K_X11_list 1 rfl) ic_0 ?_
  have h := h _ rfl
  refine x_putI (tk K_X11_list 2 rfl) f_X11_202 rfl (Or.inl rfl) (RfS.o hS) ?_
  refine x_iconst (tk K_X11_list 3 rfl) ic_0 ?_
  refine x_istore (L' := [some (vR _), some (vI _), some (vI _), some (vI _), some (vI _)]) (tk K_X11_list 4 rfl) rfl (Nat.le_of_ble_eq_true rfl) rfl ?_
  exact h

theorem b_X11_list_8 {X : Cx} {d kc ns : Nat} {M : Mem} {Q : Option AV → Mem → Prop} {l1 : Int32} {l2 : Int32} {l3 : Int32} {l4 : Int32} (hS : RfS M) (hd : 1 ≤ d)
    (h : (((nI 8) ≤ l4 → Cl X (d - 1) 0 0 m_X11_listFrom [vR 75, vI l1, vI (nI 0), vI l2, vI l3, vI (nI 0), vI (nI 0)] M (fun r M1 => r = none ∧ Ext M M1 ∧ Q (some (vI (mI M1 75 22))) M1)) ∧ (¬ (nI 8) ≤ l4 → vp_in (((nI 8) * l1) + l4) 40 ∧ ∀ M2 : Mem, M2 = sI M 90 (ix (((nI 8) * l1) + l4)) (nI 0) → WA X d kc ns m_X11_list 8 [some (vR 75), some (vI l1), some (vI l2), some (vI l3), some (vI (l4 + (nI 1)))] [] M2 Q))) :
    WA X d kc ns m_X11_list 8 [some (vR 75), some (vI l1), some (vI l2), some (vI l3), some (vI l4)] [] M Q := by
  refine x_iload (tk K_X11_list 5 rfl) rfl ?_
  refine x_bipush (tk K_X11_list 6 rfl) bp_8 ?_
  refine x_icmp_ge (t := 34) (tk K_X11_list 7 rfl) rfl (fun hc => ?_) (fun hc => ?_)
  · have h := h.1 hc
    refine x_aload_n (tk K_X11_list 19 rfl) rfl rfl ?_
    refine x_iload_n (tk K_X11_list 20 rfl) rfl rfl ?_
    refine x_iconst (tk K_X11_list 21 rfl) ic_0 ?_
    refine x_iload_n (tk K_X11_list 22 rfl) rfl rfl ?_
    refine x_iload_n (tk K_X11_list 23 rfl) rfl rfl ?_
    refine x_iconst (tk K_X11_list 24 rfl) ic_0 ?_
    refine x_iconst (tk K_X11_list 25 rfl) ic_0 ?_
    refine x_callV0 (As := [vI _, vI _, vI _, vI _, vI _, vI _]) (S := []) (tk K_X11_list 26 rfl) mk_X11_205 mo_X11_listFrom (RfS.o hS) rfl rfl (Nat.le_of_ble_eq_true rfl) hd h (fun r M1 hq => ?_)
    obtain ⟨rfl, hE, h⟩ := hq
    have hT0 := RfS.ext hS hE
    refine x_aload_n (tk K_X11_list 27 rfl) rfl rfl ?_
    refine x_getI (tk K_X11_list 28 rfl) f_X11_202 rfl (RfS.o hT0) ?_
    exact x_ireturn (tk K_X11_list 29 rfl) rfl rfl h
  · have h := h.2 hc
    refine x_aload_n (tk K_X11_list 8 rfl) rfl rfl ?_
    refine x_getRc (tk K_X11_list 9 rfl) f_X11_53 rfl (RfS.o hS) (RfS.r21 hS) ?_
    refine x_bipush (tk K_X11_list 10 rfl) bp_8 ?_
    refine x_iload_n (tk K_X11_list 11 rfl) rfl rfl ?_
    refine x_imul (tk K_X11_list 12 rfl) ?_
    refine x_iload (tk K_X11_list 13 rfl) rfl ?_
    refine x_iadd (tk K_X11_list 14 rfl) ?_
    refine x_iconst (tk K_X11_list 15 rfl) ic_0 ?_
    have hi := h.1
    have h := h.2
    have h := h _ rfl
    refine x_iast (tk K_X11_list 16 rfl) (RfS.k21 hS) hi ?_
    refine x_iincW (L' := [some (vR _), some (vI _), some (vI _), some (vI _), some (vI _)]) (tk K_X11_list 17 rfl) rfl ic_1 rfl (Nat.le_of_ble_eq_true rfl) rfl ?_
    refine x_goto (t := 8) (tk K_X11_list 18 rfl) rfl ?_
    exact h

theorem e_X11_list {X : Cx} {d kc ns : Nat} {M : Mem} {Q : Option AV → Mem → Prop} {a1 : Int32} {a2 : Int32} {a3 : Int32} (h : WA X d kc ns m_X11_list 0 [some (vR 75), some (vI a1), some (vI a2), some (vI a3), none] [] M Q) : Cl X d kc ns m_X11_list [vR 75, vI a1, vI a2, vI a3] M Q := Cl.intro (k := 1) (by decide) rfl rfl h

-- TwoPencilsModel.whole()I
theorem b_X11_whole_0 {X : Cx} {d kc ns : Nat} {M : Mem} {Q : Option AV → Mem → Prop} (hS : RfS M)
    (h : vp_in (mI M 75 19) 7 ∧ Q (some (vI ((shl (nI 1) (mI M 77 (ix (mI M 75 19)))) - (nI 1)))) M) :
    WA X d kc ns m_X11_whole 0 [some (vR 75)] [] M Q := by
  refine x_iconst (tk K_X11_whole 0 rfl) ic_1 ?_
  refine x_aload_n (tk K_X11_whole 1 rfl) rfl rfl ?_
  refine x_getRc (tk K_X11_whole 2 rfl) f_X11_13 rfl (RfS.o hS) (RfS.r5 hS) ?_
  refine x_aload_n (tk K_X11_whole 3 rfl) rfl rfl ?_
  refine x_getI (tk K_X11_whole 4 rfl) f_X11_184 rfl (RfS.o hS) ?_
  have hi := h.1
  have h := h.2
  refine x_iald (tk K_X11_whole 5 rfl) (RfS.k5 hS) hi ?_
  refine x_ishl (tk K_X11_whole 6 rfl) ?_
  refine x_iconst (tk K_X11_whole 7 rfl) ic_1 ?_
  refine x_isub (tk K_X11_whole 8 rfl) ?_
  exact x_ireturn (tk K_X11_whole 9 rfl) rfl rfl h

theorem e_X11_whole {X : Cx} {d kc ns : Nat} {M : Mem} {Q : Option AV → Mem → Prop} (h : WA X d kc ns m_X11_whole 0 [some (vR 75)] [] M Q) : Cl X d kc ns m_X11_whole [vR 75] M Q := Cl.intro (k := 0) (by decide) rfl rfl h

-- TwoPencilsModel.judged(I)I
theorem b_X11_judged_0 {X : Cx} {d kc ns : Nat} {M : Mem} {Q : Option AV → Mem → Prop} {l1 : Int32} (hS : RfS M) (hd : 1 ≤ d)
    (h : Cl X (d - 1) 0 0 m_X11_whole [vR 75] M (fun r M1 => ∃ x1 : Int32, r = some (vI x1) ∧ Ext M M1 ∧ vp_in (mI M1 75 19) 7 ∧ Cl X (d - 1) 0 0 m_X11_isNumbered [vR 75, vI l1, vI x1, vI (mI M1 78 (ix (mI M1 75 19)))] M1 (fun r M2 => ∃ x2 : Int32, r = some (vI x2) ∧ Ext M1 M2 ∧ ((¬ x2 = nI 0 → WA X d kc ns m_X11_judged 25 [some (vR 75), some (vI l1), some (vI (nI 0)), none] [] M2 Q) ∧ (x2 = nI 0 → Q (some (vI (nI 1))) M2))))) :
    WA X d kc ns m_X11_judged 0 [some (vR 75), some (vI l1), none, none] [] M Q := by
  refine x_aload_n (tk K_X11_judged 0 rfl) rfl rfl ?_
  refine x_iload_n (tk K_X11_judged 1 rfl) rfl rfl ?_
  refine x_aload_n (tk K_X11_judged 2 rfl) rfl rfl ?_
  refine x_callV0 (As := []) (S := [vI _, vR _]) (tk K_X11_judged 3 rfl) mk_X11_209 mo_X11_whole (RfS.o hS) rfl rfl (Nat.le_of_ble_eq_true rfl) hd h (fun r M1 hq => ?_)
  obtain ⟨x1, rfl, hE, h⟩ := hq
  have hT0 := RfS.ext hS hE
  refine x_aload_n (tk K_X11_judged 4 rfl) rfl rfl ?_
  refine x_getRc (tk K_X11_judged 5 rfl) f_X11_16 rfl (RfS.o hT0) (RfS.r6 hT0) ?_
  refine x_aload_n (tk K_X11_judged 6 rfl) rfl rfl ?_
  refine x_getI (tk K_X11_judged 7 rfl) f_X11_184 rfl (RfS.o hT0) ?_
  have hi := h.1
  have h := h.2
  refine x_iald (tk K_X11_judged 8 rfl) (RfS.k6 hT0) hi ?_
  refine x_callV0 (As := [vI _, vI _, vI _]) (S := []) (tk K_X11_judged 9 rfl) mk_X11_196 mo_X11_isNumbered (RfS.o hT0) rfl rfl (Nat.le_of_ble_eq_true rfl) hd h (fun r M2 hq => ?_)
  obtain ⟨x2, rfl, hE, h⟩ := hq
  have hT1 := RfS.ext hT0 hE
  have hT2 := hE.1 _ _ _ (RfS.k6 hT0)
  refine x_if_ne (t := 23) (tk K_X11_judged 10 rfl) rfl (fun hc => ?_) (fun hc => ?_)
  · have h := h.1 hc
    refine x_iconst (tk K_X11_judged 13 rfl) ic_0 ?_
    refine x_istore_n (L' := [some (vR _), some (vI _), some (vI _), none]) (tk K_X11_judged 14 rfl) rfl rfl (Nat.le_of_ble_eq_true rfl) rfl ?_
    exact h
  · have h := h.2 hc
    refine x_iconst (tk K_X11_judged 11 rfl) ic_1 ?_
    exact x_ireturn (tk K_X11_judged 12 rfl) rfl rfl h

theorem b_X11_judged_25 {X : Cx} {d kc ns : Nat} {M : Mem} {Q : Option AV → Mem → Prop} {l1 : Int32} {l2 : Int32} (hS : RfS M) (hd : 1 ≤ d)
    (h : vp_in (mI M 75 19) 7 ∧ (((mI M 78 (ix (mI M 75 19))) ≤ l2 → Q (some (vI (nI 0))) M) ∧ (¬ (mI M 78 (ix (mI M 75 19))) ≤ l2 → Cl X (d - 1) 0 0 m_X11_whole [vR 75] M (fun r M1 => ∃ x1 : Int32, r = some (vI x1) ∧ Ext M M1 ∧ Cl X (d - 1) 0 0 m_X11_seatOf [vR 75, vI l1, vI x1, vI l2] M1 (fun r M2 => ∃ x2 : Int32, r = some (vI x2) ∧ Ext M1 M2 ∧ vp_in x2 512 ∧ ∀ x3 : Int32, x3 = (mI M2 87 (ix x2)) → ((x3 = nI 0 → WA X d kc ns m_X11_judged 25 [some (vR 75), some (vI l1), some (vI (l2 + (nI 1))), none] [] M2 Q) ∧ (¬ x3 = nI 0 → Q (some (vI x3)) M2))))))) :
    WA X d kc ns m_X11_judged 25 [some (vR 75), some (vI l1), some (vI l2), none] [] M Q := by
  refine x_iload_n (tk K_X11_judged 15 rfl) rfl rfl ?_
  refine x_aload_n (tk K_X11_judged 16 rfl) rfl rfl ?_
  refine x_getRc (tk K_X11_judged 17 rfl) f_X11_16 rfl (RfS.o hS) (RfS.r6 hS) ?_
  refine x_aload_n (tk K_X11_judged 18 rfl) rfl rfl ?_
  refine x_getI (tk K_X11_judged 19 rfl) f_X11_184 rfl (RfS.o hS) ?_
  have hi := h.1
  have h := h.2
  refine x_iald (tk K_X11_judged 20 rfl) (RfS.k6 hS) hi ?_
  refine x_icmp_ge (t := 66) (tk K_X11_judged 21 rfl) rfl (fun hc => ?_) (fun hc => ?_)
  · have h := h.1 hc
    refine x_iconst (tk K_X11_judged 38 rfl) ic_0 ?_
    exact x_ireturn (tk K_X11_judged 39 rfl) rfl rfl h
  · have h := h.2 hc
    refine x_aload_n (tk K_X11_judged 22 rfl) rfl rfl ?_
    refine x_getRc (tk K_X11_judged 23 rfl) f_X11_43 rfl (RfS.o hS) (RfS.r17 hS) ?_
    refine x_aload_n (tk K_X11_judged 24 rfl) rfl rfl ?_
    refine x_iload_n (tk K_X11_judged 25 rfl) rfl rfl ?_
    refine x_aload_n (tk K_X11_judged 26 rfl) rfl rfl ?_
    refine x_callV0 (As := []) (S := [vI _, vR _, vR _]) (tk K_X11_judged 27 rfl) mk_X11_209 mo_X11_whole (RfS.o hS) rfl rfl (Nat.le_of_ble_eq_true rfl) hd h (fun r M1 hq => ?_)
    obtain ⟨x1, rfl, hE, h⟩ := hq
    have hT0 := RfS.ext hS hE
    have hT1 := hE.1 _ _ _ (RfS.k6 hS)
    have hT2 := hE.1 _ _ _ (RfS.k17 hS)
    refine x_iload_n (tk K_X11_judged 28 rfl) rfl rfl ?_
    refine x_callV0 (As := [vI _, vI _, vI _]) (S := [vR _]) (tk K_X11_judged 29 rfl) mk_X11_199 mo_X11_seatOf (RfS.o hT0) rfl rfl (Nat.le_of_ble_eq_true rfl) hd h (fun r M2 hq => ?_)
    obtain ⟨x2, rfl, hE, h⟩ := hq
    have hT3 := RfS.ext hT0 hE
    have hT4 := hE.1 _ _ _ hT1
    have hT5 := hE.1 _ _ _ hT2
    have hi := h.1
    have h := h.2
    refine x_iald (tk K_X11_judged 30 rfl) hT5 hi ?_
    have h := h _ rfl
    refine x_istore_n (L' := [some (vR _), some (vI _), some (vI _), some (vI _)]) (tk K_X11_judged 31 rfl) rfl rfl (Nat.le_of_ble_eq_true rfl) rfl ?_
    refine x_iload_n (tk K_X11_judged 32 rfl) rfl rfl ?_
    refine x_if_eq (t := 60) (tk K_X11_judged 33 rfl) rfl (fun hc => ?_) (fun hc => ?_)
    · have h := h.1 hc
      refine x_iincW (L' := [some (vR _), some (vI _), some (vI _), some (vI _)]) (tk K_X11_judged 36 rfl) rfl ic_1 rfl (Nat.le_of_ble_eq_true rfl) rfl ?_
      refine x_goto (t := 25) (tk K_X11_judged 37 rfl) rfl ?_
      refine x_msk [true, true, true, false] ?_
      exact h
    · have h := h.2 hc
      refine x_iload_n (tk K_X11_judged 34 rfl) rfl rfl ?_
      exact x_ireturn (tk K_X11_judged 35 rfl) rfl rfl h

theorem e_X11_judged {X : Cx} {d kc ns : Nat} {M : Mem} {Q : Option AV → Mem → Prop} {a1 : Int32} (h : WA X d kc ns m_X11_judged 0 [some (vR 75), some (vI a1), none, none] [] M Q) : Cl X d kc ns m_X11_judged [vR 75, vI a1] M Q := Cl.intro (k := 2) (by decide) rfl rfl h

-- TwoPencilsModel.judge(II)I
theorem b_X11_judge_0 {X : Cx} {d kc ns : Nat} {M : Mem} {Q : Option AV → Mem → Prop} {l1 : Int32} {l2 : Int32} (hS : RfS M) (hd : 1 ≤ d)
    (h : Cl X (d - 1) 0 0 m_X11_isNumber [vR 75, vI l1, vI l2] M (fun r M1 => ∃ x1 : Int32, r = some (vI x1) ∧ Ext M M1 ∧ ((¬ x1 = nI 0 → Cl X (d - 1) 0 0 m_X11_prepare [vR 75, vI l1] M1 (fun r M2 => r = none ∧ Ext M1 M2 ∧ Cl X (d - 1) 0 0 m_X11_judged [vR 75, vI l2] M2 (fun r M3 => ∃ x2 : Int32, r = some (vI x2) ∧ Ext M2 M3 ∧ Q (some (vI x2)) M3))) ∧ (x1 = nI 0 → Q (some (vI (-1))) M1)))) :
    WA X d kc ns m_X11_judge 0 [some (vR 75), some (vI l1), some (vI l2)] [] M Q := by
  refine x_aload_n (tk K_X11_judge 0 rfl) rfl rfl ?_
  refine x_iload_n (tk K_X11_judge 1 rfl) rfl rfl ?_
  refine x_iload_n (tk K_X11_judge 2 rfl) rfl rfl ?_
  refine x_callV0 (As := [vI _, vI _]) (S := []) (tk K_X11_judge 3 rfl) mk_X11_212 mo_X11_isNumber (RfS.o hS) rfl rfl (Nat.le_of_ble_eq_true rfl) hd h (fun r M1 hq => ?_)
  obtain ⟨x1, rfl, hE, h⟩ := hq
  have hT0 := RfS.ext hS hE
  refine x_if_ne (t := 11) (tk K_X11_judge 4 rfl) rfl (fun hc => ?_) (fun hc => ?_)
  · have h := h.1 hc
    refine x_aload_n (tk K_X11_judge 7 rfl) rfl rfl ?_
    refine x_iload_n (tk K_X11_judge 8 rfl) rfl rfl ?_
    refine x_callV0 (As := [vI _]) (S := []) (tk K_X11_judge 9 rfl) mk_X11_215 mo_X11_prepare (RfS.o hT0) rfl rfl (Nat.le_of_ble_eq_true rfl) hd h (fun r M2 hq => ?_)
    obtain ⟨rfl, hE, h⟩ := hq
    have hT1 := RfS.ext hT0 hE
    refine x_aload_n (tk K_X11_judge 10 rfl) rfl rfl ?_
    refine x_iload_n (tk K_X11_judge 11 rfl) rfl rfl ?_
    refine x_callV0 (As := [vI _]) (S := []) (tk K_X11_judge 12 rfl) mk_X11_218 mo_X11_judged (RfS.o hT1) rfl rfl (Nat.le_of_ble_eq_true rfl) hd h (fun r M3 hq => ?_)
    obtain ⟨x2, rfl, hE, h⟩ := hq
    have hT2 := RfS.ext hT1 hE
    exact x_ireturn (tk K_X11_judge 13 rfl) rfl rfl h
  · have h := h.2 hc
    refine x_iconst (tk K_X11_judge 5 rfl) ic_m1 ?_
    exact x_ireturn (tk K_X11_judge 6 rfl) rfl rfl h

theorem e_X11_judge {X : Cx} {d kc ns : Nat} {M : Mem} {Q : Option AV → Mem → Prop} {a1 : Int32} {a2 : Int32} (h : WA X d kc ns m_X11_judge 0 [some (vR 75), some (vI a1), some (vI a2)] [] M Q) : Cl X d kc ns m_X11_judge [vR 75, vI a1, vI a2] M Q := Cl.intro (k := 0) (by decide) rfl rfl h

-- TwoPencilsModel.isWell(II)Z
theorem b_X11_isWell_0 {X : Cx} {d kc ns : Nat} {M : Mem} {Q : Option AV → Mem → Prop} {l1 : Int32} {l2 : Int32} (hS : RfS M) (hd : 1 ≤ d)
    (h : Cl X (d - 1) 0 0 m_X11_judge [vR 75, vI l1, vI l2] M (fun r M1 => ∃ x1 : Int32, r = some (vI x1) ∧ Ext M M1 ∧ ((¬ x1 = nI 0 → Q (some (vI (nI 0))) M1) ∧ (x1 = nI 0 → Q (some (vI (nI 1))) M1)))) :
    WA X d kc ns m_X11_isWell 0 [some (vR 75), some (vI l1), some (vI l2)] [] M Q := by
  refine x_aload_n (tk K_X11_isWell 0 rfl) rfl rfl ?_
  refine x_iload_n (tk K_X11_isWell 1 rfl) rfl rfl ?_
  refine x_iload_n (tk K_X11_isWell 2 rfl) rfl rfl ?_
  refine x_callV0 (As := [vI _, vI _]) (S := []) (tk K_X11_isWell 3 rfl) mk_X11_221 mo_X11_judge (RfS.o hS) rfl rfl (Nat.le_of_ble_eq_true rfl) hd h (fun r M1 hq => ?_)
  obtain ⟨x1, rfl, hE, h⟩ := hq
  have hT0 := RfS.ext hS hE
  refine x_if_ne (t := 13) (tk K_X11_isWell 4 rfl) rfl (fun hc => ?_) (fun hc => ?_)
  · have h := h.1 hc
    refine x_iconst (tk K_X11_isWell 7 rfl) ic_0 ?_
    exact x_ireturn (tk K_X11_isWell 8 rfl) rfl (fitZ (Or.inl rfl)).1 h
  · have h := h.2 hc
    refine x_iconst (tk K_X11_isWell 5 rfl) ic_1 ?_
    refine x_goto (t := 14) (tk K_X11_isWell 6 rfl) rfl ?_
    exact x_ireturn (tk K_X11_isWell 8 rfl) rfl (fitZ (Or.inr rfl)).1 h

theorem e_X11_isWell {X : Cx} {d kc ns : Nat} {M : Mem} {Q : Option AV → Mem → Prop} {a1 : Int32} {a2 : Int32} (h : WA X d kc ns m_X11_isWell 0 [some (vR 75), some (vI a1), some (vI a2)] [] M Q) : Cl X d kc ns m_X11_isWell [vR 75, vI a1, vI a2] M Q := Cl.intro (k := 0) (by decide) rfl rfl h

-- TwoPencilsModel.won(III)I
theorem b_X11_won_0 {X : Cx} {d kc ns : Nat} {M : Mem} {Q : Option AV → Mem → Prop} {l1 : Int32} {l2 : Int32} {l3 : Int32} (hS : RfS M) (hd : 1 ≤ d)
    (h : Cl X (d - 1) 0 0 m_X11_isWell [vR 75, vI l1, vI l2] M (fun r M1 => ∃ x1 : Int32, r = some (vI x1) ∧ Ext M M1 ∧ ((x1 = nI 0 → Q (some (vI (-1))) M1) ∧ (¬ x1 = nI 0 → vp_in l1 7 ∧ Cl X (d - 1) 0 0 m_X11_in [vI l3, vI (nI 0), vI ((mI M1 78 (ix l1)) - (nI 1))] M1 (fun r M2 => ∃ x2 : Int32, r = some (vI x2) ∧ Ext M1 M2 ∧ ((x2 = nI 0 → Q (some (vI (-1))) M2) ∧ (¬ x2 = nI 0 → Cl X (d - 1) 0 0 m_X11_whole [vR 75] M2 (fun r M3 => ∃ x3 : Int32, r = some (vI x3) ∧ Ext M2 M3 ∧ Cl X (d - 1) 0 0 m_X11_seatOf [vR 75, vI l2, vI x3, vI l3] M3 (fun r M4 => ∃ x4 : Int32, r = some (vI x4) ∧ Ext M3 M4 ∧ vp_in x4 512 ∧ Q (some (vI (mI M4 88 (ix x4)))) M4))))))))) :
    WA X d kc ns m_X11_won 0 [some (vR 75), some (vI l1), some (vI l2), some (vI l3)] [] M Q := by
  refine x_aload_n (tk K_X11_won 0 rfl) rfl rfl ?_
  refine x_iload_n (tk K_X11_won 1 rfl) rfl rfl ?_
  refine x_iload_n (tk K_X11_won 2 rfl) rfl rfl ?_
  refine x_callV0 (As := [vI _, vI _]) (S := []) (tk K_X11_won 3 rfl) mk_X11_224 mo_X11_isWell (RfS.o hS) rfl rfl (Nat.le_of_ble_eq_true rfl) hd h (fun r M1 hq => ?_)
  obtain ⟨x1, rfl, hE, h⟩ := hq
  have hT0 := RfS.ext hS hE
  refine x_if_eq (t := 43) (tk K_X11_won 4 rfl) rfl (fun hc => ?_) (fun hc => ?_)
  · have h := h.1 hc
    refine x_iconst (tk K_X11_won 25 rfl) ic_m1 ?_
    exact x_ireturn (tk K_X11_won 26 rfl) rfl rfl h
  · have h := h.2 hc
    refine x_iload_n (tk K_X11_won 5 rfl) rfl rfl ?_
    refine x_iconst (tk K_X11_won 6 rfl) ic_0 ?_
    refine x_aload_n (tk K_X11_won 7 rfl) rfl rfl ?_
    refine x_getRc (tk K_X11_won 8 rfl) f_X11_16 rfl (RfS.o hT0) (RfS.r6 hT0) ?_
    refine x_iload_n (tk K_X11_won 9 rfl) rfl rfl ?_
    have hi := h.1
    have h := h.2
    refine x_iald (tk K_X11_won 10 rfl) (RfS.k6 hT0) hi ?_
    refine x_iconst (tk K_X11_won 11 rfl) ic_1 ?_
    refine x_isub (tk K_X11_won 12 rfl) ?_
    refine x_callS0 (As := [vI _, vI _, vI _]) (S := []) (tk K_X11_won 13 rfl) mk_X11_125 mo_X11_in rfl rfl (Nat.le_of_ble_eq_true rfl) hd h (fun r M2 hq => ?_)
    obtain ⟨x2, rfl, hE, h⟩ := hq
    have hT1 := RfS.ext hT0 hE
    have hT2 := hE.1 _ _ _ (RfS.k6 hT0)
    refine x_if_eq (t := 43) (tk K_X11_won 14 rfl) rfl (fun hc => ?_) (fun hc => ?_)
    · have h := h.1 hc
      refine x_iconst (tk K_X11_won 25 rfl) ic_m1 ?_
      exact x_ireturn (tk K_X11_won 26 rfl) rfl rfl h
    · have h := h.2 hc
      refine x_aload_n (tk K_X11_won 15 rfl) rfl rfl ?_
      refine x_getRc (tk K_X11_won 16 rfl) f_X11_46 rfl (RfS.o hT1) (RfS.r18 hT1) ?_
      refine x_aload_n (tk K_X11_won 17 rfl) rfl rfl ?_
      refine x_iload_n (tk K_X11_won 18 rfl) rfl rfl ?_
      refine x_aload_n (tk K_X11_won 19 rfl) rfl rfl ?_
      refine x_callV0 (As := []) (S := [vI _, vR _, vR _]) (tk K_X11_won 20 rfl) mk_X11_209 mo_X11_whole (RfS.o hT1) rfl rfl (Nat.le_of_ble_eq_true rfl) hd h (fun r M3 hq => ?_)
      obtain ⟨x3, rfl, hE, h⟩ := hq
      have hT3 := RfS.ext hT1 hE
      have hT4 := hE.1 _ _ _ hT2
      have hT5 := hE.1 _ _ _ (RfS.k18 hT1)
      refine x_iload_n (tk K_X11_won 21 rfl) rfl rfl ?_
      refine x_callV0 (As := [vI _, vI _, vI _]) (S := [vR _]) (tk K_X11_won 22 rfl) mk_X11_199 mo_X11_seatOf (RfS.o hT3) rfl rfl (Nat.le_of_ble_eq_true rfl) hd h (fun r M4 hq => ?_)
      obtain ⟨x4, rfl, hE, h⟩ := hq
      have hT6 := RfS.ext hT3 hE
      have hT7 := hE.1 _ _ _ hT4
      have hT8 := hE.1 _ _ _ hT5
      have hi := h.1
      have h := h.2
      refine x_iald (tk K_X11_won 23 rfl) hT8 hi ?_
      refine x_goto (t := 44) (tk K_X11_won 24 rfl) rfl ?_
      exact x_ireturn (tk K_X11_won 26 rfl) rfl rfl h

theorem e_X11_won {X : Cx} {d kc ns : Nat} {M : Mem} {Q : Option AV → Mem → Prop} {a1 : Int32} {a2 : Int32} {a3 : Int32} (h : WA X d kc ns m_X11_won 0 [some (vR 75), some (vI a1), some (vI a2), some (vI a3)] [] M Q) : Cl X d kc ns m_X11_won [vR 75, vI a1, vI a2, vI a3] M Q := Cl.intro (k := 0) (by decide) rfl rfl h

-- TwoPencilsModel.wins(II)I
theorem b_X11_wins_0 {X : Cx} {d kc ns : Nat} {M : Mem} {Q : Option AV → Mem → Prop} {l1 : Int32} {l2 : Int32} (hS : RfS M)
    (h : WA X d kc ns m_X11_wins 5 [some (vR 75), some (vI l1), some (vI l2), some (vI (nI 0)), some (vI (nI 0))] [] M Q) :
    WA X d kc ns m_X11_wins 0 [some (vR 75), some (vI l1), some (vI l2), none, none] [] M Q := by
  refine x_iconst (tk K_X11_wins 0 rfl) ic_0 ?_
  refine x_istore_n (L' := [some (vR _), some (vI _), some (vI _), some (vI _), none]) (tk K_X11_wins 1 rfl) rfl rfl (Nat.le_of_ble_eq_true rfl) rfl ?_
  refine x_iconst (tk K_X11_wins 2 rfl) ic_0 ?_
  refine x_istore (L' := [some (vR _), some (vI _), some (vI _), some (vI _), some (vI _)]) (tk K_X11_wins 3 rfl) rfl (Nat.le_of_ble_eq_true rfl) rfl ?_
  exact h

theorem b_X11_wins_5 {X : Cx} {d kc ns : Nat} {M : Mem} {Q : Option AV → Mem → Prop} {l1 : Int32} {l2 : Int32} {l3 : Int32} {l4 : Int32} (hS : RfS M) (hd : 1 ≤ d)
    (h : vp_in (mI M 75 19) 7 ∧ (((mI M 78 (ix (mI M 75 19))) ≤ l4 → Q (some (vI l3)) M) ∧ (¬ (mI M 78 (ix (mI M 75 19))) ≤ l4 → Cl X (d - 1) 0 0 m_X11_whole [vR 75] M (fun r M1 => ∃ x1 : Int32, r = some (vI x1) ∧ Ext M M1 ∧ Cl X (d - 1) 0 0 m_X11_seatOf [vR 75, vI l1, vI x1, vI l4] M1 (fun r M2 => ∃ x2 : Int32, r = some (vI x2) ∧ Ext M1 M2 ∧ vp_in x2 512 ∧ ((¬ (mI M2 88 (ix x2)) = l2 → ∀ x3 : Int32, x3 = (l3 + (nI 0)) → WA X d kc ns m_X11_wins 5 [some (vR 75), some (vI l1), some (vI l2), some (vI x3), some (vI (l4 + (nI 1)))] [] M2 Q) ∧ ((mI M2 88 (ix x2)) = l2 → ∀ x4 : Int32, x4 = (l3 + (nI 1)) → WA X d kc ns m_X11_wins 5 [some (vR 75), some (vI l1), some (vI l2), some (vI x4), some (vI (l4 + (nI 1)))] [] M2 Q))))))) :
    WA X d kc ns m_X11_wins 5 [some (vR 75), some (vI l1), some (vI l2), some (vI l3), some (vI l4)] [] M Q := by
  refine x_iload (tk K_X11_wins 4 rfl) rfl ?_
  refine x_aload_n (tk K_X11_wins 5 rfl) rfl rfl ?_
  refine x_getRc (tk K_X11_wins 6 rfl) f_X11_16 rfl (RfS.o hS) (RfS.r6 hS) ?_
  refine x_aload_n (tk K_X11_wins 7 rfl) rfl rfl ?_
  refine x_getI (tk K_X11_wins 8 rfl) f_X11_184 rfl (RfS.o hS) ?_
  have hi := h.1
  have h := h.2
  refine x_iald (tk K_X11_wins 9 rfl) (RfS.k6 hS) hi ?_
  refine x_icmp_ge (t := 53) (tk K_X11_wins 10 rfl) rfl (fun hc => ?_) (fun hc => ?_)
  · have h := h.1 hc
    refine x_iload_n (tk K_X11_wins 30 rfl) rfl rfl ?_
    exact x_ireturn (tk K_X11_wins 31 rfl) rfl rfl h
  · have h := h.2 hc
    refine x_iload_n (tk K_X11_wins 11 rfl) rfl rfl ?_
    refine x_aload_n (tk K_X11_wins 12 rfl) rfl rfl ?_
    refine x_getRc (tk K_X11_wins 13 rfl) f_X11_46 rfl (RfS.o hS) (RfS.r18 hS) ?_
    refine x_aload_n (tk K_X11_wins 14 rfl) rfl rfl ?_
    refine x_iload_n (tk K_X11_wins 15 rfl) rfl rfl ?_
    refine x_aload_n (tk K_X11_wins 16 rfl) rfl rfl ?_
    refine x_callV0 (As := []) (S := [vI _, vR _, vR _, vI _]) (tk K_X11_wins 17 rfl) mk_X11_209 mo_X11_whole (RfS.o hS) rfl rfl (Nat.le_of_ble_eq_true rfl) hd h (fun r M1 hq => ?_)
    obtain ⟨x1, rfl, hE, h⟩ := hq
    have hT0 := RfS.ext hS hE
    have hT1 := hE.1 _ _ _ (RfS.k6 hS)
    have hT2 := hE.1 _ _ _ (RfS.k18 hS)
    refine x_iload (tk K_X11_wins 18 rfl) rfl ?_
    refine x_callV0 (As := [vI _, vI _, vI _]) (S := [vR _, vI _]) (tk K_X11_wins 19 rfl) mk_X11_199 mo_X11_seatOf (RfS.o hT0) rfl rfl (Nat.le_of_ble_eq_true rfl) hd h (fun r M2 hq => ?_)
    obtain ⟨x2, rfl, hE, h⟩ := hq
    have hT3 := RfS.ext hT0 hE
    have hT4 := hE.1 _ _ _ hT1
    have hT5 := hE.1 _ _ _ hT2
    have hi := h.1
    have h := h.2
    refine x_iald (tk K_X11_wins 20 rfl) hT5 hi ?_
    refine x_iload_n (tk K_X11_wins 21 rfl) rfl rfl ?_
    refine x_icmp_ne (t := 44) (tk K_X11_wins 22 rfl) rfl (fun hc => ?_) (fun hc => ?_)
    · have h := h.1 hc
      refine x_iconst (tk K_X11_wins 25 rfl) ic_0 ?_
      refine x_iadd (tk K_X11_wins 26 rfl) ?_
      have h := h _ rfl
      refine x_istore_n (L' := [some (vR _), some (vI _), some (vI _), some (vI _), some (vI _)]) (tk K_X11_wins 27 rfl) rfl rfl (Nat.le_of_ble_eq_true rfl) rfl ?_
      refine x_iincW (L' := [some (vR _), some (vI _), some (vI _), some (vI _), some (vI _)]) (tk K_X11_wins 28 rfl) rfl ic_1 rfl (Nat.le_of_ble_eq_true rfl) rfl ?_
      refine x_goto (t := 5) (tk K_X11_wins 29 rfl) rfl ?_
      exact h
    · have h := h.2 hc
      refine x_iconst (tk K_X11_wins 23 rfl) ic_1 ?_
      refine x_goto (t := 45) (tk K_X11_wins 24 rfl) rfl ?_
      refine x_iadd (tk K_X11_wins 26 rfl) ?_
      have h := h _ rfl
      refine x_istore_n (L' := [some (vR _), some (vI _), some (vI _), some (vI _), some (vI _)]) (tk K_X11_wins 27 rfl) rfl rfl (Nat.le_of_ble_eq_true rfl) rfl ?_
      refine x_iincW (L' := [some (vR _), some (vI _), some (vI _), some (vI _), some (vI _)]) (tk K_X11_wins 28 rfl) rfl ic_1 rfl (Nat.le_of_ble_eq_true rfl) rfl ?_
      refine x_goto (t := 5) (tk K_X11_wins 29 rfl) rfl ?_
      exact h

theorem e_X11_wins {X : Cx} {d kc ns : Nat} {M : Mem} {Q : Option AV → Mem → Prop} {a1 : Int32} {a2 : Int32} (h : WA X d kc ns m_X11_wins 0 [some (vR 75), some (vI a1), some (vI a2), none, none] [] M Q) : Cl X d kc ns m_X11_wins [vR 75, vI a1, vI a2] M Q := Cl.intro (k := 2) (by decide) rfl rfl h

-- TwoPencilsModel.seats(III)I
theorem b_X11_seats_0 {X : Cx} {d kc ns : Nat} {M : Mem} {Q : Option AV → Mem → Prop} {l1 : Int32} {l2 : Int32} {l3 : Int32} (hS : RfS M) (hd : 1 ≤ d)
    (h : Cl X (d - 1) 0 0 m_X11_isParty [vI l3] M (fun r M1 => ∃ x1 : Int32, r = some (vI x1) ∧ Ext M M1 ∧ ((x1 = nI 0 → Q (some (vI (-1))) M1) ∧ (¬ x1 = nI 0 → Cl X (d - 1) 0 0 m_X11_isWell [vR 75, vI l1, vI l2] M1 (fun r M2 => ∃ x2 : Int32, r = some (vI x2) ∧ Ext M1 M2 ∧ ((x2 = nI 0 → Q (some (vI (-1))) M2) ∧ (¬ x2 = nI 0 → Cl X (d - 1) 0 0 m_X11_wins [vR 75, vI l2, vI l3] M2 (fun r M3 => ∃ x3 : Int32, r = some (vI x3) ∧ Ext M2 M3 ∧ Q (some (vI x3)) M3)))))))) :
    WA X d kc ns m_X11_seats 0 [some (vR 75), some (vI l1), some (vI l2), some (vI l3)] [] M Q := by
  refine x_iload_n (tk K_X11_seats 0 rfl) rfl rfl ?_
  refine x_callS0 (As := [vI _]) (S := []) (tk K_X11_seats 1 rfl) mk_X11_227 mo_X11_isParty rfl rfl (Nat.le_of_ble_eq_true rfl) hd h (fun r M1 hq => ?_)
  obtain ⟨x1, rfl, hE, h⟩ := hq
  have hT0 := RfS.ext hS hE
  refine x_if_eq (t := 25) (tk K_X11_seats 2 rfl) rfl (fun hc => ?_) (fun hc => ?_)
  · have h := h.1 hc
    refine x_iconst (tk K_X11_seats 13 rfl) ic_m1 ?_
    exact x_ireturn (tk K_X11_seats 14 rfl) rfl rfl h
  · have h := h.2 hc
    refine x_aload_n (tk K_X11_seats 3 rfl) rfl rfl ?_
    refine x_iload_n (tk K_X11_seats 4 rfl) rfl rfl ?_
    refine x_iload_n (tk K_X11_seats 5 rfl) rfl rfl ?_
    refine x_callV0 (As := [vI _, vI _]) (S := []) (tk K_X11_seats 6 rfl) mk_X11_224 mo_X11_isWell (RfS.o hT0) rfl rfl (Nat.le_of_ble_eq_true rfl) hd h (fun r M2 hq => ?_)
    obtain ⟨x2, rfl, hE, h⟩ := hq
    have hT1 := RfS.ext hT0 hE
    refine x_if_eq (t := 25) (tk K_X11_seats 7 rfl) rfl (fun hc => ?_) (fun hc => ?_)
    · have h := h.1 hc
      refine x_iconst (tk K_X11_seats 13 rfl) ic_m1 ?_
      exact x_ireturn (tk K_X11_seats 14 rfl) rfl rfl h
    · have h := h.2 hc
      refine x_aload_n (tk K_X11_seats 8 rfl) rfl rfl ?_
      refine x_iload_n (tk K_X11_seats 9 rfl) rfl rfl ?_
      refine x_iload_n (tk K_X11_seats 10 rfl) rfl rfl ?_
      refine x_callV0 (As := [vI _, vI _]) (S := []) (tk K_X11_seats 11 rfl) mk_X11_230 mo_X11_wins (RfS.o hT1) rfl rfl (Nat.le_of_ble_eq_true rfl) hd h (fun r M3 hq => ?_)
      obtain ⟨x3, rfl, hE, h⟩ := hq
      have hT2 := RfS.ext hT1 hE
      refine x_goto (t := 26) (tk K_X11_seats 12 rfl) rfl ?_
      exact x_ireturn (tk K_X11_seats 14 rfl) rfl rfl h

theorem e_X11_seats {X : Cx} {d kc ns : Nat} {M : Mem} {Q : Option AV → Mem → Prop} {a1 : Int32} {a2 : Int32} {a3 : Int32} (h : WA X d kc ns m_X11_seats 0 [some (vR 75), some (vI a1), some (vI a2), some (vI a3)] [] M Q) : Cl X d kc ns m_X11_seats [vR 75, vI a1, vI a2, vI a3] M Q := Cl.intro (k := 0) (by decide) rfl rfl h

-- TwoPencilsModel.listAll(I)I
theorem b_X11_listAll_0 {X : Cx} {d kc ns : Nat} {M : Mem} {Q : Option AV → Mem → Prop} {l1 : Int32} (hS : RfS M) (hd : 1 ≤ d)
    (h : Cl X (d - 1) 0 0 m_X11_prepare [vR 75, vI l1] M (fun r M1 => r = none ∧ Ext M M1 ∧ Cl X (d - 1) 0 0 m_X11_whole [vR 75] M1 (fun r M2 => ∃ x1 : Int32, r = some (vI x1) ∧ Ext M1 M2 ∧ vp_in l1 7 ∧ Cl X (d - 1) 0 0 m_X11_list [vR 75, vI (nI 0), vI x1, vI (mI M2 78 (ix l1))] M2 (fun r M3 => ∃ x2 : Int32, r = some (vI x2) ∧ Ext M2 M3 ∧ Q (some (vI x2)) M3)))) :
    WA X d kc ns m_X11_listAll 0 [some (vR 75), some (vI l1)] [] M Q := by
  refine x_aload_n (tk K_X11_listAll 0 rfl) rfl rfl ?_
  refine x_iload_n (tk K_X11_listAll 1 rfl) rfl rfl ?_
  refine x_callV0 (As := [vI _]) (S := []) (tk K_X11_listAll 2 rfl) mk_X11_215 mo_X11_prepare (RfS.o hS) rfl rfl (Nat.le_of_ble_eq_true rfl) hd h (fun r M1 hq => ?_)
  obtain ⟨rfl, hE, h⟩ := hq
  have hT0 := RfS.ext hS hE
  refine x_aload_n (tk K_X11_listAll 3 rfl) rfl rfl ?_
  refine x_iconst (tk K_X11_listAll 4 rfl) ic_0 ?_
  refine x_aload_n (tk K_X11_listAll 5 rfl) rfl rfl ?_
  refine x_callV0 (As := []) (S := [vI _, vR _]) (tk K_X11_listAll 6 rfl) mk_X11_209 mo_X11_whole (RfS.o hT0) rfl rfl (Nat.le_of_ble_eq_true rfl) hd h (fun r M2 hq => ?_)
  obtain ⟨x1, rfl, hE, h⟩ := hq
  have hT1 := RfS.ext hT0 hE
  refine x_aload_n (tk K_X11_listAll 7 rfl) rfl rfl ?_
  refine x_getRc (tk K_X11_listAll 8 rfl) f_X11_16 rfl (RfS.o hT1) (RfS.r6 hT1) ?_
  refine x_iload_n (tk K_X11_listAll 9 rfl) rfl rfl ?_
  have hi := h.1
  have h := h.2
  refine x_iald (tk K_X11_listAll 10 rfl) (RfS.k6 hT1) hi ?_
  refine x_callV0 (As := [vI _, vI _, vI _]) (S := []) (tk K_X11_listAll 11 rfl) mk_X11_233 mo_X11_list (RfS.o hT1) rfl rfl (Nat.le_of_ble_eq_true rfl) hd h (fun r M3 hq => ?_)
  obtain ⟨x2, rfl, hE, h⟩ := hq
  have hT2 := RfS.ext hT1 hE
  have hT3 := hE.1 _ _ _ (RfS.k6 hT1)
  exact x_ireturn (tk K_X11_listAll 12 rfl) rfl rfl h

theorem e_X11_listAll {X : Cx} {d kc ns : Nat} {M : Mem} {Q : Option AV → Mem → Prop} {a1 : Int32} (h : WA X d kc ns m_X11_listAll 0 [some (vR 75), some (vI a1)] [] M Q) : Cl X d kc ns m_X11_listAll [vR 75, vI a1] M Q := Cl.intro (k := 0) (by decide) rfl rfl h

-- TwoPencilsModel.all(II)I
theorem b_X11_all_0 {X : Cx} {d kc ns : Nat} {M : Mem} {Q : Option AV → Mem → Prop} {l1 : Int32} {l2 : Int32} (hS : RfS M) (hd : 1 ≤ d)
    (h : Cl X (d - 1) 0 0 m_X11_isLand [vR 75, vI l1] M (fun r M1 => ∃ x1 : Int32, r = some (vI x1) ∧ Ext M M1 ∧ ((¬ x1 = nI 0 → Cl X (d - 1) 0 0 m_X11_listAll [vR 75, vI l1] M1 (fun r M2 => ∃ x2 : Int32, r = some (vI x2) ∧ Ext M1 M2 ∧ ((¬ l2 = (-1) → Cl X (d - 1) 0 0 m_X11_in [vI l2, vI (nI 0), vI (x2 - (nI 1))] M2 (fun r M3 => ∃ x3 : Int32, r = some (vI x3) ∧ Ext M2 M3 ∧ ((x3 = nI 0 → Q (some (vI (-1))) M3) ∧ (¬ x3 = nI 0 → vp_in l2 40000 ∧ Q (some (vI (mI M3 89 (ix l2)))) M3)))) ∧ (l2 = (-1) → Q (some (vI x2)) M2)))) ∧ (x1 = nI 0 → Q (some (vI (-1))) M1)))) :
    WA X d kc ns m_X11_all 0 [some (vR 75), some (vI l1), some (vI l2), none] [] M Q := by
  refine x_aload_n (tk K_X11_all 0 rfl) rfl rfl ?_
  refine x_iload_n (tk K_X11_all 1 rfl) rfl rfl ?_
  refine x_callV0 (As := [vI _]) (S := []) (tk K_X11_all 2 rfl) mk_X11_168 mo_X11_isLand (RfS.o hS) rfl rfl (Nat.le_of_ble_eq_true rfl) hd h (fun r M1 hq => ?_)
  obtain ⟨x1, rfl, hE, h⟩ := hq
  have hT0 := RfS.ext hS hE
  refine x_if_ne (t := 10) (tk K_X11_all 3 rfl) rfl (fun hc => ?_) (fun hc => ?_)
  · have h := h.1 hc
    refine x_aload_n (tk K_X11_all 6 rfl) rfl rfl ?_
    refine x_iload_n (tk K_X11_all 7 rfl) rfl rfl ?_
    refine x_callV0 (As := [vI _]) (S := []) (tk K_X11_all 8 rfl) mk_X11_236 mo_X11_listAll (RfS.o hT0) rfl rfl (Nat.le_of_ble_eq_true rfl) hd h (fun r M2 hq => ?_)
    obtain ⟨x2, rfl, hE, h⟩ := hq
    have hT1 := RfS.ext hT0 hE
    refine x_istore_n (L' := [some (vR _), some (vI _), some (vI _), some (vI _)]) (tk K_X11_all 9 rfl) rfl rfl (Nat.le_of_ble_eq_true rfl) rfl ?_
    refine x_iload_n (tk K_X11_all 10 rfl) rfl rfl ?_
    refine x_iconst (tk K_X11_all 11 rfl) ic_m1 ?_
    refine x_icmp_ne (t := 25) (tk K_X11_all 12 rfl) rfl (fun hc => ?_) (fun hc => ?_)
    · have h := h.1 hc
      refine x_iload_n (tk K_X11_all 15 rfl) rfl rfl ?_
      refine x_iconst (tk K_X11_all 16 rfl) ic_0 ?_
      refine x_iload_n (tk K_X11_all 17 rfl) rfl rfl ?_
      refine x_iconst (tk K_X11_all 18 rfl) ic_1 ?_
      refine x_isub (tk K_X11_all 19 rfl) ?_
      refine x_callS0 (As := [vI _, vI _, vI _]) (S := []) (tk K_X11_all 20 rfl) mk_X11_125 mo_X11_in rfl rfl (Nat.le_of_ble_eq_true rfl) hd h (fun r M3 hq => ?_)
      obtain ⟨x3, rfl, hE, h⟩ := hq
      have hT2 := RfS.ext hT1 hE
      refine x_if_eq (t := 45) (tk K_X11_all 21 rfl) rfl (fun hc => ?_) (fun hc => ?_)
      · have h := h.1 hc
        refine x_iconst (tk K_X11_all 27 rfl) ic_m1 ?_
        exact x_ireturn (tk K_X11_all 28 rfl) rfl rfl h
      · have h := h.2 hc
        refine x_aload_n (tk K_X11_all 22 rfl) rfl rfl ?_
        refine x_getRc (tk K_X11_all 23 rfl) f_X11_50 rfl (RfS.o hT2) (RfS.r20 hT2) ?_
        refine x_iload_n (tk K_X11_all 24 rfl) rfl rfl ?_
        have hi := h.1
        have h := h.2
        refine x_iald (tk K_X11_all 25 rfl) (RfS.k20 hT2) hi ?_
        refine x_goto (t := 46) (tk K_X11_all 26 rfl) rfl ?_
        exact x_ireturn (tk K_X11_all 28 rfl) rfl rfl h
    · have h := h.2 hc
      refine x_iload_n (tk K_X11_all 13 rfl) rfl rfl ?_
      refine x_goto (t := 46) (tk K_X11_all 14 rfl) rfl ?_
      exact x_ireturn (tk K_X11_all 28 rfl) rfl rfl h
  · have h := h.2 hc
    refine x_iconst (tk K_X11_all 4 rfl) ic_m1 ?_
    exact x_ireturn (tk K_X11_all 5 rfl) rfl rfl h

theorem e_X11_all {X : Cx} {d kc ns : Nat} {M : Mem} {Q : Option AV → Mem → Prop} {a1 : Int32} {a2 : Int32} (h : WA X d kc ns m_X11_all 0 [some (vR 75), some (vI a1), some (vI a2), none] [] M Q) : Cl X d kc ns m_X11_all [vR 75, vI a1, vI a2] M Q := Cl.intro (k := 1) (by decide) rfl rfl h

-- TwoPencilsModel.alone(III)I
theorem b_X11_alone_0 {X : Cx} {d kc ns : Nat} {M : Mem} {Q : Option AV → Mem → Prop} {l1 : Int32} {l2 : Int32} {l3 : Int32} (hS : RfS M) (hd : 1 ≤ d)
    (h : Cl X (d - 1) 0 0 m_X11_isLand [vR 75, vI l1] M (fun r M1 => ∃ x1 : Int32, r = some (vI x1) ∧ Ext M M1 ∧ ((x1 = nI 0 → Q (some (vI (-1))) M1) ∧ (¬ x1 = nI 0 → Cl X (d - 1) 0 0 m_X11_isParty [vI l2] M1 (fun r M2 => ∃ x2 : Int32, r = some (vI x2) ∧ Ext M1 M2 ∧ ((x2 = nI 0 → Q (some (vI (-1))) M2) ∧ (¬ x2 = nI 0 → Cl X (d - 1) 0 0 m_X11_in [vI l3, vI (nI 0), vI (nI 2)] M2 (fun r M3 => ∃ x3 : Int32, r = some (vI x3) ∧ Ext M2 M3 ∧ ((¬ x3 = nI 0 → Cl X (d - 1) 0 0 m_X11_listAll [vR 75, vI l1] M3 (fun r M4 => ∃ x4 : Int32, r = some (vI x4) ∧ Ext M3 M4 ∧ WA X d kc ns m_X11_alone 42 [some (vR 75), none, some (vI l2), some (vI l3), some (vI x4), some (vI (-1)), some (vI (-1)), some (vI (nI 0)), none] [] M4 Q)) ∧ (x3 = nI 0 → Q (some (vI (-1))) M3)))))))))) :
    WA X d kc ns m_X11_alone 0 [some (vR 75), some (vI l1), some (vI l2), some (vI l3), none, none, none, none, none] [] M Q := by
  refine x_aload_n (tk K_X11_alone 0 rfl) rfl rfl ?_
  refine x_iload_n (tk K_X11_alone 1 rfl) rfl rfl ?_
  refine x_callV0 (As := [vI _]) (S := []) (tk K_X11_alone 2 rfl) mk_X11_168 mo_X11_isLand (RfS.o hS) rfl rfl (Nat.le_of_ble_eq_true rfl) hd h (fun r M1 hq => ?_)
  obtain ⟨x1, rfl, hE, h⟩ := hq
  have hT0 := RfS.ext hS hE
  refine x_if_eq (t := 24) (tk K_X11_alone 3 rfl) rfl (fun hc => ?_) (fun hc => ?_)
  · have h := h.1 hc
    refine x_iconst (tk K_X11_alone 12 rfl) ic_m1 ?_
    exact x_ireturn (tk K_X11_alone 13 rfl) rfl rfl h
  · have h := h.2 hc
    refine x_iload_n (tk K_X11_alone 4 rfl) rfl rfl ?_
    refine x_callS0 (As := [vI _]) (S := []) (tk K_X11_alone 5 rfl) mk_X11_227 mo_X11_isParty rfl rfl (Nat.le_of_ble_eq_true rfl) hd h (fun r M2 hq => ?_)
    obtain ⟨x2, rfl, hE, h⟩ := hq
    have hT1 := RfS.ext hT0 hE
    refine x_if_eq (t := 24) (tk K_X11_alone 6 rfl) rfl (fun hc => ?_) (fun hc => ?_)
    · have h := h.1 hc
      refine x_iconst (tk K_X11_alone 12 rfl) ic_m1 ?_
      exact x_ireturn (tk K_X11_alone 13 rfl) rfl rfl h
    · have h := h.2 hc
      refine x_iload_n (tk K_X11_alone 7 rfl) rfl rfl ?_
      refine x_iconst (tk K_X11_alone 8 rfl) ic_0 ?_
      refine x_iconst (tk K_X11_alone 9 rfl) ic_2 ?_
      refine x_callS0 (As := [vI _, vI _, vI _]) (S := []) (tk K_X11_alone 10 rfl) mk_X11_125 mo_X11_in rfl rfl (Nat.le_of_ble_eq_true rfl) hd h (fun r M3 hq => ?_)
      obtain ⟨x3, rfl, hE, h⟩ := hq
      have hT2 := RfS.ext hT1 hE
      refine x_if_ne (t := 26) (tk K_X11_alone 11 rfl) rfl (fun hc => ?_) (fun hc => ?_)
      · have h := h.1 hc
        refine x_aload_n (tk K_X11_alone 14 rfl) rfl rfl ?_
        refine x_iload_n (tk K_X11_alone 15 rfl) rfl rfl ?_
        refine x_callV0 (As := [vI _]) (S := []) (tk K_X11_alone 16 rfl) mk_X11_236 mo_X11_listAll (RfS.o hT2) rfl rfl (Nat.le_of_ble_eq_true rfl) hd h (fun r M4 hq => ?_)
        obtain ⟨x4, rfl, hE, h⟩ := hq
        have hT3 := RfS.ext hT2 hE
        refine x_istore (L' := [some (vR _), some (vI _), some (vI _), some (vI _), some (vI _), none, none, none, none]) (tk K_X11_alone 17 rfl) rfl (Nat.le_of_ble_eq_true rfl) rfl ?_
        refine x_iconst (tk K_X11_alone 18 rfl) ic_m1 ?_
        refine x_istore (L' := [some (vR _), some (vI _), some (vI _), some (vI _), some (vI _), some (vI _), none, none, none]) (tk K_X11_alone 19 rfl) rfl (Nat.le_of_ble_eq_true rfl) rfl ?_
        refine x_iconst (tk K_X11_alone 20 rfl) ic_m1 ?_
        refine x_istore (L' := [some (vR _), some (vI _), some (vI _), some (vI _), some (vI _), some (vI _), some (vI _), none, none]) (tk K_X11_alone 21 rfl) rfl (Nat.le_of_ble_eq_true rfl) rfl ?_
        refine x_iconst (tk K_X11_alone 22 rfl) ic_0 ?_
        refine x_istore (L' := [some (vR _), some (vI _), some (vI _), some (vI _), some (vI _), some (vI _), some (vI _), some (vI _), none]) (tk K_X11_alone 23 rfl) rfl (Nat.le_of_ble_eq_true rfl) rfl ?_
        refine x_msk [true, false, true, true, true, true, true, true, false] ?_
        exact h
      · have h := h.2 hc
        refine x_iconst (tk K_X11_alone 12 rfl) ic_m1 ?_
        exact x_ireturn (tk K_X11_alone 13 rfl) rfl rfl h

theorem b_X11_alone_42 {X : Cx} {d kc ns : Nat} {M : Mem} {Q : Option AV → Mem → Prop} {l2 : Int32} {l3 : Int32} {l4 : Int32} {l5 : Int32} {l6 : Int32} {l7 : Int32} (hS : RfS M) (hd : 1 ≤ d)
    (h : ((l4 ≤ l7 → ((¬ l5 = (-1) → ((¬ l3 = nI 0 → ((¬ l3 = (nI 1) → vp_in l5 40000 ∧ Q (some (vI (mI M 89 (ix l5)))) M) ∧ (l3 = (nI 1) → Q (some (vI l6)) M))) ∧ (l3 = nI 0 → vp_in l5 40000 ∧ Cl X (d - 1) 0 0 m_X11_wins [vR 75, vI (mI M 89 (ix l5)), vI l2] M (fun r M1 => ∃ x1 : Int32, r = some (vI x1) ∧ Ext M M1 ∧ Q (some (vI x1)) M1)))) ∧ (l5 = (-1) → Q (some (vI (-1))) M))) ∧ (¬ l4 ≤ l7 → vp_in l7 40000 ∧ Cl X (d - 1) 0 0 m_X11_wins [vR 75, vI (mI M 89 (ix l7)), vI l2] M (fun r M2 => ∃ x2 : Int32, r = some (vI x2) ∧ Ext M M2 ∧ ((l5 = (-1) → WA X d kc ns m_X11_alone 86 [some (vR 75), none, some (vI l2), some (vI l3), some (vI l4), none, some (vI l6), some (vI l7), some (vI x2)] [] M2 Q) ∧ (¬ l5 = (-1) → vp_in l5 40000 ∧ Cl X (d - 1) 0 0 m_X11_wins [vR 75, vI (mI M2 89 (ix l5)), vI l2] M2 (fun r M3 => ∃ x3 : Int32, r = some (vI x3) ∧ Ext M2 M3 ∧ ((x2 ≤ x3 → WA X d kc ns m_X11_alone 93 [some (vR 75), none, some (vI l2), some (vI l3), some (vI l4), none, some (vI l6), some (vI l7), some (vI x2)] [vI l5] M3 Q) ∧ (¬ x2 ≤ x3 → WA X d kc ns m_X11_alone 86 [some (vR 75), none, some (vI l2), some (vI l3), some (vI l4), none, some (vI l6), some (vI l7), some (vI x2)] [] M3 Q))))))))) :
    WA X d kc ns m_X11_alone 42 [some (vR 75), none, some (vI l2), some (vI l3), some (vI l4), some (vI l5), some (vI l6), some (vI l7), none] [] M Q := by
  refine x_iload (tk K_X11_alone 24 rfl) rfl ?_
  refine x_iload (tk K_X11_alone 25 rfl) rfl ?_
  refine x_icmp_ge (t := 121) (tk K_X11_alone 26 rfl) rfl (fun hc => ?_) (fun hc => ?_)
  · have h := h.1 hc
    refine x_iload (tk K_X11_alone 62 rfl) rfl ?_
    refine x_iconst (tk K_X11_alone 63 rfl) ic_m1 ?_
    refine x_icmp_ne (t := 131) (tk K_X11_alone 64 rfl) rfl (fun hc => ?_) (fun hc => ?_)
    · have h := h.1 hc
      refine x_iload_n (tk K_X11_alone 67 rfl) rfl rfl ?_
      refine x_if_ne (t := 150) (tk K_X11_alone 68 rfl) rfl (fun hc => ?_) (fun hc => ?_)
      · have h := h.1 hc
        refine x_iload_n (tk K_X11_alone 77 rfl) rfl rfl ?_
        refine x_iconst (tk K_X11_alone 78 rfl) ic_1 ?_
        refine x_icmp_ne (t := 160) (tk K_X11_alone 79 rfl) rfl (fun hc => ?_) (fun hc => ?_)
        · have h := h.1 hc
          refine x_aload_n (tk K_X11_alone 82 rfl) rfl rfl ?_
          refine x_getRc (tk K_X11_alone 83 rfl) f_X11_50 rfl (RfS.o hS) (RfS.r20 hS) ?_
          refine x_iload (tk K_X11_alone 84 rfl) rfl ?_
          have hi := h.1
          have h := h.2
          refine x_iald (tk K_X11_alone 85 rfl) (RfS.k20 hS) hi ?_
          exact x_ireturn (tk K_X11_alone 86 rfl) rfl rfl h
        · have h := h.2 hc
          refine x_iload (tk K_X11_alone 80 rfl) rfl ?_
          refine x_goto (t := 167) (tk K_X11_alone 81 rfl) rfl ?_
          exact x_ireturn (tk K_X11_alone 86 rfl) rfl rfl h
      · have h := h.2 hc
        refine x_aload_n (tk K_X11_alone 69 rfl) rfl rfl ?_
        refine x_aload_n (tk K_X11_alone 70 rfl) rfl rfl ?_
        refine x_getRc (tk K_X11_alone 71 rfl) f_X11_50 rfl (RfS.o hS) (RfS.r20 hS) ?_
        refine x_iload (tk K_X11_alone 72 rfl) rfl ?_
        have hi := h.1
        have h := h.2
        refine x_iald (tk K_X11_alone 73 rfl) (RfS.k20 hS) hi ?_
        refine x_iload_n (tk K_X11_alone 74 rfl) rfl rfl ?_
        refine x_callV0 (As := [vI _, vI _]) (S := []) (tk K_X11_alone 75 rfl) mk_X11_230 mo_X11_wins (RfS.o hS) rfl rfl (Nat.le_of_ble_eq_true rfl) hd h (fun r M1 hq => ?_)
        obtain ⟨x1, rfl, hE, h⟩ := hq
        have hT0 := RfS.ext hS hE
        have hT1 := hE.1 _ _ _ (RfS.k20 hS)
        refine x_goto (t := 167) (tk K_X11_alone 76 rfl) rfl ?_
        exact x_ireturn (tk K_X11_alone 86 rfl) rfl rfl h
    · have h := h.2 hc
      refine x_iconst (tk K_X11_alone 65 rfl) ic_m1 ?_
      refine x_goto (t := 167) (tk K_X11_alone 66 rfl) rfl ?_
      exact x_ireturn (tk K_X11_alone 86 rfl) rfl rfl h
  · have h := h.2 hc
    refine x_aload_n (tk K_X11_alone 27 rfl) rfl rfl ?_
    refine x_aload_n (tk K_X11_alone 28 rfl) rfl rfl ?_
    refine x_getRc (tk K_X11_alone 29 rfl) f_X11_50 rfl (RfS.o hS) (RfS.r20 hS) ?_
    refine x_iload (tk K_X11_alone 30 rfl) rfl ?_
    have hi := h.1
    have h := h.2
    refine x_iald (tk K_X11_alone 31 rfl) (RfS.k20 hS) hi ?_
    refine x_iload_n (tk K_X11_alone 32 rfl) rfl rfl ?_
    refine x_callV0 (As := [vI _, vI _]) (S := []) (tk K_X11_alone 33 rfl) mk_X11_230 mo_X11_wins (RfS.o hS) rfl rfl (Nat.le_of_ble_eq_true rfl) hd h (fun r M2 hq => ?_)
    obtain ⟨x2, rfl, hE, h⟩ := hq
    have hT2 := RfS.ext hS hE
    have hT3 := hE.1 _ _ _ (RfS.k20 hS)
    refine x_istore (L' := [some (vR _), none, some (vI _), some (vI _), some (vI _), some (vI _), some (vI _), some (vI _), some (vI _)]) (tk K_X11_alone 34 rfl) rfl (Nat.le_of_ble_eq_true rfl) rfl ?_
    refine x_iload (tk K_X11_alone 35 rfl) rfl ?_
    refine x_iconst (tk K_X11_alone 36 rfl) ic_m1 ?_
    refine x_icmp_eq (t := 86) (tk K_X11_alone 37 rfl) rfl (fun hc => ?_) (fun hc => ?_)
    · have h := h.1 hc
      refine x_msk [true, false, true, true, true, false, true, true, true] ?_
      exact h
    · have h := h.2 hc
      refine x_iload (tk K_X11_alone 38 rfl) rfl ?_
      refine x_aload_n (tk K_X11_alone 39 rfl) rfl rfl ?_
      refine x_aload_n (tk K_X11_alone 40 rfl) rfl rfl ?_
      refine x_getRc (tk K_X11_alone 41 rfl) f_X11_50 rfl (RfS.o hT2) (RfS.r20 hT2) ?_
      refine x_iload (tk K_X11_alone 42 rfl) rfl ?_
      have hi := h.1
      have h := h.2
      refine x_iald (tk K_X11_alone 43 rfl) (RfS.k20 hT2) hi ?_
      refine x_iload_n (tk K_X11_alone 44 rfl) rfl rfl ?_
      refine x_callV0 (As := [vI _, vI _]) (S := [vI _]) (tk K_X11_alone 45 rfl) mk_X11_230 mo_X11_wins (RfS.o hT2) rfl rfl (Nat.le_of_ble_eq_true rfl) hd h (fun r M3 hq => ?_)
      obtain ⟨x3, rfl, hE, h⟩ := hq
      have hT4 := RfS.ext hT2 hE
      have hT5 := hE.1 _ _ _ (RfS.k20 hT2)
      refine x_icmp_le (t := 91) (tk K_X11_alone 46 rfl) rfl (fun hc => ?_) (fun hc => ?_)
      · have h := h.1 hc
        refine x_iload (tk K_X11_alone 49 rfl) rfl ?_
        refine x_msk [true, false, true, true, true, false, true, true, true] ?_
        exact h
      · have h := h.2 hc
        refine x_msk [true, false, true, true, true, false, true, true, true] ?_
        exact h

theorem b_X11_alone_86 {X : Cx} {d kc ns : Nat} {M : Mem} {Q : Option AV → Mem → Prop} {l2 : Int32} {l3 : Int32} {l4 : Int32} {l6 : Int32} {l7 : Int32} {l8 : Int32} (hS : RfS M)
    (h : WA X d kc ns m_X11_alone 93 [some (vR 75), none, some (vI l2), some (vI l3), some (vI l4), none, some (vI l6), some (vI l7), some (vI l8)] [vI l7] M Q) :
    WA X d kc ns m_X11_alone 86 [some (vR 75), none, some (vI l2), some (vI l3), some (vI l4), none, some (vI l6), some (vI l7), some (vI l8)] [] M Q := by
  refine x_iload (tk K_X11_alone 47 rfl) rfl ?_
  refine x_goto (t := 93) (tk K_X11_alone 48 rfl) rfl ?_
  exact h

theorem b_X11_alone_93 {X : Cx} {d kc ns : Nat} {M : Mem} {Q : Option AV → Mem → Prop} {l2 : Int32} {l3 : Int32} {l4 : Int32} {l6 : Int32} {l7 : Int32} {l8 : Int32} {s0 : Int32} (hS : RfS M) (hd : 1 ≤ d)
    (h : ((¬ l6 = (-1) → ∀ x1 : Int32, x1 = (minI l6 l8) → WA X d kc ns m_X11_alone 42 [some (vR 75), none, some (vI l2), some (vI l3), some (vI l4), some (vI s0), some (vI x1), some (vI (l7 + (nI 1))), none] [] M Q) ∧ (l6 = (-1) → WA X d kc ns m_X11_alone 42 [some (vR 75), none, some (vI l2), some (vI l3), some (vI l4), some (vI s0), some (vI l8), some (vI (l7 + (nI 1))), none] [] M Q))) :
    WA X d kc ns m_X11_alone 93 [some (vR 75), none, some (vI l2), some (vI l3), some (vI l4), none, some (vI l6), some (vI l7), some (vI l8)] [vI s0] M Q := by
  refine x_istore (L' := [some (vR _), none, some (vI _), some (vI _), some (vI _), some (vI _), some (vI _), some (vI _), some (vI _)]) (tk K_X11_alone 50 rfl) rfl (Nat.le_of_ble_eq_true rfl) rfl ?_
  refine x_iload (tk K_X11_alone 51 rfl) rfl ?_
  refine x_iconst (tk K_X11_alone 52 rfl) ic_m1 ?_
  refine x_icmp_ne (t := 106) (tk K_X11_alone 53 rfl) rfl (fun hc => ?_) (fun hc => ?_)
  · have h := h.1 hc
    refine x_iload (tk K_X11_alone 56 rfl) rfl ?_
    refine x_iload (tk K_X11_alone 57 rfl) rfl ?_
    refine x_mmin (tk K_X11_alone 58 rfl) mx_X11_139 mx_min_st mx_min_co hd (Nat.le_of_ble_eq_true rfl) ?_
    have h := h _ rfl
    refine x_istore (L' := [some (vR _), none, some (vI _), some (vI _), some (vI _), some (vI _), some (vI _), some (vI _), some (vI _)]) (tk K_X11_alone 59 rfl) rfl (Nat.le_of_ble_eq_true rfl) rfl ?_
    refine x_iincW (L' := [some (vR _), none, some (vI _), some (vI _), some (vI _), some (vI _), some (vI _), some (vI _), some (vI _)]) (tk K_X11_alone 60 rfl) rfl ic_1 rfl (Nat.le_of_ble_eq_true rfl) rfl ?_
    refine x_goto (t := 42) (tk K_X11_alone 61 rfl) rfl ?_
    refine x_msk [true, false, true, true, true, true, true, true, false] ?_
    exact h
  · have h := h.2 hc
    refine x_iload (tk K_X11_alone 54 rfl) rfl ?_
    refine x_goto (t := 113) (tk K_X11_alone 55 rfl) rfl ?_
    refine x_istore (L' := [some (vR _), none, some (vI _), some (vI _), some (vI _), some (vI _), some (vI _), some (vI _), some (vI _)]) (tk K_X11_alone 59 rfl) rfl (Nat.le_of_ble_eq_true rfl) rfl ?_
    refine x_iincW (L' := [some (vR _), none, some (vI _), some (vI _), some (vI _), some (vI _), some (vI _), some (vI _), some (vI _)]) (tk K_X11_alone 60 rfl) rfl ic_1 rfl (Nat.le_of_ble_eq_true rfl) rfl ?_
    refine x_goto (t := 42) (tk K_X11_alone 61 rfl) rfl ?_
    refine x_msk [true, false, true, true, true, true, true, true, false] ?_
    exact h

theorem e_X11_alone {X : Cx} {d kc ns : Nat} {M : Mem} {Q : Option AV → Mem → Prop} {a1 : Int32} {a2 : Int32} {a3 : Int32} (h : WA X d kc ns m_X11_alone 0 [some (vR 75), some (vI a1), some (vI a2), some (vI a3), none, none, none, none, none] [] M Q) : Cl X d kc ns m_X11_alone [vR 75, vI a1, vI a2, vI a3] M Q := Cl.intro (k := 5) (by decide) rfl rfl h

-- TwoPencilsModel.luck(IIII)I
theorem b_X11_luck_0 {X : Cx} {d kc ns : Nat} {M : Mem} {Q : Option AV → Mem → Prop} {l1 : Int32} {l2 : Int32} {l3 : Int32} {l4 : Int32} (hS : RfS M) (hd : 1 ≤ d)
    (h : Cl X (d - 1) 0 0 m_X11_isParty [vI l3] M (fun r M1 => ∃ x1 : Int32, r = some (vI x1) ∧ Ext M M1 ∧ ((x1 = nI 0 → Q (some (vI (-1))) M1) ∧ (¬ x1 = nI 0 → Cl X (d - 1) 0 0 m_X11_in [vI l4, vI (nI 0), vI (nI 1)] M1 (fun r M2 => ∃ x2 : Int32, r = some (vI x2) ∧ Ext M1 M2 ∧ ((x2 = nI 0 → Q (some (vI (-1))) M2) ∧ (¬ x2 = nI 0 → Cl X (d - 1) 0 0 m_X11_isWell [vR 75, vI l1, vI l2] M2 (fun r M3 => ∃ x3 : Int32, r = some (vI x3) ∧ Ext M2 M3 ∧ ((¬ x3 = nI 0 → Cl X (d - 1) 0 0 m_X11_wins [vR 75, vI l2, vI l3] M3 (fun r M4 => ∃ x4 : Int32, r = some (vI x4) ∧ Ext M3 M4 ∧ Cl X (d - 1) 0 0 m_X11_listAll [vR 75, vI l1] M4 (fun r M5 => ∃ x5 : Int32, r = some (vI x5) ∧ Ext M4 M5 ∧ WA X d kc ns m_X11_luck 49 [some (vR 75), none, none, some (vI l3), some (vI l4), some (vI x4), some (vI x5), some (vI (nI 0)), some (vI (nI 0)), none] [] M5 Q))) ∧ (x3 = nI 0 → Q (some (vI (-1))) M3)))))))))) :
    WA X d kc ns m_X11_luck 0 [some (vR 75), some (vI l1), some (vI l2), some (vI l3), some (vI l4), none, none, none, none, none] [] M Q := by
  refine x_iload_n (tk K_X11_luck 0 rfl) rfl rfl ?_
  refine x_callS0 (As := [vI _]) (S := []) (tk K_X11_luck 1 rfl) mk_X11_227 mo_X11_isParty rfl rfl (Nat.le_of_ble_eq_true rfl) hd h (fun r M1 hq => ?_)
  obtain ⟨x1, rfl, hE, h⟩ := hq
  have hT0 := RfS.ext hS hE
  refine x_if_eq (t := 26) (tk K_X11_luck 2 rfl) rfl (fun hc => ?_) (fun hc => ?_)
  · have h := h.1 hc
    refine x_iconst (tk K_X11_luck 13 rfl) ic_m1 ?_
    exact x_ireturn (tk K_X11_luck 14 rfl) rfl rfl h
  · have h := h.2 hc
    refine x_iload (tk K_X11_luck 3 rfl) rfl ?_
    refine x_iconst (tk K_X11_luck 4 rfl) ic_0 ?_
    refine x_iconst (tk K_X11_luck 5 rfl) ic_1 ?_
    refine x_callS0 (As := [vI _, vI _, vI _]) (S := []) (tk K_X11_luck 6 rfl) mk_X11_125 mo_X11_in rfl rfl (Nat.le_of_ble_eq_true rfl) hd h (fun r M2 hq => ?_)
    obtain ⟨x2, rfl, hE, h⟩ := hq
    have hT1 := RfS.ext hT0 hE
    refine x_if_eq (t := 26) (tk K_X11_luck 7 rfl) rfl (fun hc => ?_) (fun hc => ?_)
    · have h := h.1 hc
      refine x_iconst (tk K_X11_luck 13 rfl) ic_m1 ?_
      exact x_ireturn (tk K_X11_luck 14 rfl) rfl rfl h
    · have h := h.2 hc
      refine x_aload_n (tk K_X11_luck 8 rfl) rfl rfl ?_
      refine x_iload_n (tk K_X11_luck 9 rfl) rfl rfl ?_
      refine x_iload_n (tk K_X11_luck 10 rfl) rfl rfl ?_
      refine x_callV0 (As := [vI _, vI _]) (S := []) (tk K_X11_luck 11 rfl) mk_X11_224 mo_X11_isWell (RfS.o hT1) rfl rfl (Nat.le_of_ble_eq_true rfl) hd h (fun r M3 hq => ?_)
      obtain ⟨x3, rfl, hE, h⟩ := hq
      have hT2 := RfS.ext hT1 hE
      refine x_if_ne (t := 28) (tk K_X11_luck 12 rfl) rfl (fun hc => ?_) (fun hc => ?_)
      · have h := h.1 hc
        refine x_aload_n (tk K_X11_luck 15 rfl) rfl rfl ?_
        refine x_iload_n (tk K_X11_luck 16 rfl) rfl rfl ?_
        refine x_iload_n (tk K_X11_luck 17 rfl) rfl rfl ?_
        refine x_callV0 (As := [vI _, vI _]) (S := []) (tk K_X11_luck 18 rfl) mk_X11_230 mo_X11_wins (RfS.o hT2) rfl rfl (Nat.le_of_ble_eq_true rfl) hd h (fun r M4 hq => ?_)
        obtain ⟨x4, rfl, hE, h⟩ := hq
        have hT3 := RfS.ext hT2 hE
        refine x_istore (L' := [some (vR _), some (vI _), some (vI _), some (vI _), some (vI _), some (vI _), none, none, none, none]) (tk K_X11_luck 19 rfl) rfl (Nat.le_of_ble_eq_true rfl) rfl ?_
        refine x_aload_n (tk K_X11_luck 20 rfl) rfl rfl ?_
        refine x_iload_n (tk K_X11_luck 21 rfl) rfl rfl ?_
        refine x_callV0 (As := [vI _]) (S := []) (tk K_X11_luck 22 rfl) mk_X11_236 mo_X11_listAll (RfS.o hT3) rfl rfl (Nat.le_of_ble_eq_true rfl) hd h (fun r M5 hq => ?_)
        obtain ⟨x5, rfl, hE, h⟩ := hq
        have hT4 := RfS.ext hT3 hE
        refine x_istore (L' := [some (vR _), some (vI _), some (vI _), some (vI _), some (vI _), some (vI _), some (vI _), none, none, none]) (tk K_X11_luck 23 rfl) rfl (Nat.le_of_ble_eq_true rfl) rfl ?_
        refine x_iconst (tk K_X11_luck 24 rfl) ic_0 ?_
        refine x_istore (L' := [some (vR _), some (vI _), some (vI _), some (vI _), some (vI _), some (vI _), some (vI _), some (vI _), none, none]) (tk K_X11_luck 25 rfl) rfl (Nat.le_of_ble_eq_true rfl) rfl ?_
        refine x_iconst (tk K_X11_luck 26 rfl) ic_0 ?_
        refine x_istore (L' := [some (vR _), some (vI _), some (vI _), some (vI _), some (vI _), some (vI _), some (vI _), some (vI _), some (vI _), none]) (tk K_X11_luck 27 rfl) rfl (Nat.le_of_ble_eq_true rfl) rfl ?_
        refine x_msk [true, false, false, true, true, true, true, true, true, false] ?_
        exact h
      · have h := h.2 hc
        refine x_iconst (tk K_X11_luck 13 rfl) ic_m1 ?_
        exact x_ireturn (tk K_X11_luck 14 rfl) rfl rfl h

theorem b_X11_luck_49 {X : Cx} {d kc ns : Nat} {M : Mem} {Q : Option AV → Mem → Prop} {l3 : Int32} {l4 : Int32} {l5 : Int32} {l6 : Int32} {l7 : Int32} {l8 : Int32} (hS : RfS M) (hd : 1 ≤ d)
    (h : ((l6 ≤ l8 → Q (some (vI l7)) M) ∧ (¬ l6 ≤ l8 → vp_in l8 40000 ∧ Cl X (d - 1) 0 0 m_X11_wins [vR 75, vI (mI M 89 (ix l8)), vI l3] M (fun r M1 => ∃ x1 : Int32, r = some (vI x1) ∧ Ext M M1 ∧ ((¬ l4 = nI 0 → ((l5 ≤ x1 → ∀ x2 : Int32, x2 = (l7 + (nI 0)) → WA X d kc ns m_X11_luck 49 [some (vR 75), none, none, some (vI l3), some (vI l4), some (vI l5), some (vI l6), some (vI x2), some (vI (l8 + (nI 1))), none] [] M1 Q) ∧ (¬ l5 ≤ x1 → ∀ x3 : Int32, x3 = (l7 + (nI 1)) → WA X d kc ns m_X11_luck 49 [some (vR 75), none, none, some (vI l3), some (vI l4), some (vI l5), some (vI l6), some (vI x3), some (vI (l8 + (nI 1))), none] [] M1 Q))) ∧ (l4 = nI 0 → ((x1 ≤ l5 → ∀ x4 : Int32, x4 = (l7 + (nI 0)) → WA X d kc ns m_X11_luck 49 [some (vR 75), none, none, some (vI l3), some (vI l4), some (vI l5), some (vI l6), some (vI x4), some (vI (l8 + (nI 1))), none] [] M1 Q) ∧ (¬ x1 ≤ l5 → ∀ x5 : Int32, x5 = (l7 + (nI 1)) → WA X d kc ns m_X11_luck 49 [some (vR 75), none, none, some (vI l3), some (vI l4), some (vI l5), some (vI l6), some (vI x5), some (vI (l8 + (nI 1))), none] [] M1 Q)))))))) :
    WA X d kc ns m_X11_luck 49 [some (vR 75), none, none, some (vI l3), some (vI l4), some (vI l5), some (vI l6), some (vI l7), some (vI l8), none] [] M Q := by
  refine x_iload (tk K_X11_luck 28 rfl) rfl ?_
  refine x_iload (tk K_X11_luck 29 rfl) rfl ?_
  refine x_icmp_ge (t := 113) (tk K_X11_luck 30 rfl) rfl (fun hc => ?_) (fun hc => ?_)
  · have h := h.1 hc
    refine x_iload (tk K_X11_luck 59 rfl) rfl ?_
    exact x_ireturn (tk K_X11_luck 60 rfl) rfl rfl h
  · have h := h.2 hc
    refine x_aload_n (tk K_X11_luck 31 rfl) rfl rfl ?_
    refine x_aload_n (tk K_X11_luck 32 rfl) rfl rfl ?_
    refine x_getRc (tk K_X11_luck 33 rfl) f_X11_50 rfl (RfS.o hS) (RfS.r20 hS) ?_
    refine x_iload (tk K_X11_luck 34 rfl) rfl ?_
    have hi := h.1
    have h := h.2
    refine x_iald (tk K_X11_luck 35 rfl) (RfS.k20 hS) hi ?_
    refine x_iload_n (tk K_X11_luck 36 rfl) rfl rfl ?_
    refine x_callV0 (As := [vI _, vI _]) (S := []) (tk K_X11_luck 37 rfl) mk_X11_230 mo_X11_wins (RfS.o hS) rfl rfl (Nat.le_of_ble_eq_true rfl) hd h (fun r M1 hq => ?_)
    obtain ⟨x1, rfl, hE, h⟩ := hq
    have hT0 := RfS.ext hS hE
    have hT1 := hE.1 _ _ _ (RfS.k20 hS)
    refine x_istore (L' := [some (vR _), none, none, some (vI _), some (vI _), some (vI _), some (vI _), some (vI _), some (vI _), some (vI _)]) (tk K_X11_luck 38 rfl) rfl (Nat.le_of_ble_eq_true rfl) rfl ?_
    refine x_iload (tk K_X11_luck 39 rfl) rfl ?_
    refine x_iload (tk K_X11_luck 40 rfl) rfl ?_
    refine x_if_ne (t := 92) (tk K_X11_luck 41 rfl) rfl (fun hc => ?_) (fun hc => ?_)
    · have h := h.1 hc
      refine x_iload (tk K_X11_luck 49 rfl) rfl ?_
      refine x_iload (tk K_X11_luck 50 rfl) rfl ?_
      refine x_icmp_ge (t := 103) (tk K_X11_luck 51 rfl) rfl (fun hc => ?_) (fun hc => ?_)
      · have h := h.1 hc
        refine x_iconst (tk K_X11_luck 54 rfl) ic_0 ?_
        refine x_iadd (tk K_X11_luck 55 rfl) ?_
        have h := h _ rfl
        refine x_istore (L' := [some (vR _), none, none, some (vI _), some (vI _), some (vI _), some (vI _), some (vI _), some (vI _), some (vI _)]) (tk K_X11_luck 56 rfl) rfl (Nat.le_of_ble_eq_true rfl) rfl ?_
        refine x_iincW (L' := [some (vR _), none, none, some (vI _), some (vI _), some (vI _), some (vI _), some (vI _), some (vI _), some (vI _)]) (tk K_X11_luck 57 rfl) rfl ic_1 rfl (Nat.le_of_ble_eq_true rfl) rfl ?_
        refine x_goto (t := 49) (tk K_X11_luck 58 rfl) rfl ?_
        refine x_msk [true, false, false, true, true, true, true, true, true, false] ?_
        exact h
      · have h := h.2 hc
        refine x_iconst (tk K_X11_luck 52 rfl) ic_1 ?_
        refine x_goto (t := 104) (tk K_X11_luck 53 rfl) rfl ?_
        refine x_iadd (tk K_X11_luck 55 rfl) ?_
        have h := h _ rfl
        refine x_istore (L' := [some (vR _), none, none, some (vI _), some (vI _), some (vI _), some (vI _), some (vI _), some (vI _), some (vI _)]) (tk K_X11_luck 56 rfl) rfl (Nat.le_of_ble_eq_true rfl) rfl ?_
        refine x_iincW (L' := [some (vR _), none, none, some (vI _), some (vI _), some (vI _), some (vI _), some (vI _), some (vI _), some (vI _)]) (tk K_X11_luck 57 rfl) rfl ic_1 rfl (Nat.le_of_ble_eq_true rfl) rfl ?_
        refine x_goto (t := 49) (tk K_X11_luck 58 rfl) rfl ?_
        refine x_msk [true, false, false, true, true, true, true, true, true, false] ?_
        exact h
    · have h := h.2 hc
      refine x_iload (tk K_X11_luck 42 rfl) rfl ?_
      refine x_iload (tk K_X11_luck 43 rfl) rfl ?_
      refine x_icmp_le (t := 88) (tk K_X11_luck 44 rfl) rfl (fun hc => ?_) (fun hc => ?_)
      · have h := h.1 hc
        refine x_iconst (tk K_X11_luck 47 rfl) ic_0 ?_
        refine x_goto (t := 104) (tk K_X11_luck 48 rfl) rfl ?_
        refine x_iadd (tk K_X11_luck 55 rfl) ?_
        have h := h _ rfl
        refine x_istore (L' := [some (vR _), none, none, some (vI _), some (vI _), some (vI _), some (vI _), some (vI _), some (vI _), some (vI _)]) (tk K_X11_luck 56 rfl) rfl (Nat.le_of_ble_eq_true rfl) rfl ?_
        refine x_iincW (L' := [some (vR _), none, none, some (vI _), some (vI _), some (vI _), some (vI _), some (vI _), some (vI _), some (vI _)]) (tk K_X11_luck 57 rfl) rfl ic_1 rfl (Nat.le_of_ble_eq_true rfl) rfl ?_
        refine x_goto (t := 49) (tk K_X11_luck 58 rfl) rfl ?_
        refine x_msk [true, false, false, true, true, true, true, true, true, false] ?_
        exact h
      · have h := h.2 hc
        refine x_iconst (tk K_X11_luck 45 rfl) ic_1 ?_
        refine x_goto (t := 104) (tk K_X11_luck 46 rfl) rfl ?_
        refine x_iadd (tk K_X11_luck 55 rfl) ?_
        have h := h _ rfl
        refine x_istore (L' := [some (vR _), none, none, some (vI _), some (vI _), some (vI _), some (vI _), some (vI _), some (vI _), some (vI _)]) (tk K_X11_luck 56 rfl) rfl (Nat.le_of_ble_eq_true rfl) rfl ?_
        refine x_iincW (L' := [some (vR _), none, none, some (vI _), some (vI _), some (vI _), some (vI _), some (vI _), some (vI _), some (vI _)]) (tk K_X11_luck 57 rfl) rfl ic_1 rfl (Nat.le_of_ble_eq_true rfl) rfl ?_
        refine x_goto (t := 49) (tk K_X11_luck 58 rfl) rfl ?_
        refine x_msk [true, false, false, true, true, true, true, true, true, false] ?_
        exact h

theorem e_X11_luck {X : Cx} {d kc ns : Nat} {M : Mem} {Q : Option AV → Mem → Prop} {a1 : Int32} {a2 : Int32} {a3 : Int32} {a4 : Int32} (h : WA X d kc ns m_X11_luck 0 [some (vR 75), some (vI a1), some (vI a2), some (vI a3), some (vI a4), none, none, none, none, none] [] M Q) : Cl X d kc ns m_X11_luck [vR 75, vI a1, vI a2, vI a3, vI a4] M Q := Cl.intro (k := 5) (by decide) rfl rfl h

-- TwoPencilsModel.divisor(II)I
theorem b_X11_divisor_0 {X : Cx} {d kc ns : Nat} {M : Mem} {Q : Option AV → Mem → Prop} {l0 : Int32} {l1 : Int32} (hd : 1 ≤ d)
    (h : ((¬ l1 = nI 0 → ¬ l1 = nI 0 ∧ Cl X (d - 1) 0 0 m_X11_divisor [vI l1, vI (remI l0 l1)] M (fun r M1 => ∃ x1 : Int32, r = some (vI x1) ∧ Ext M M1 ∧ Q (some (vI x1)) M1)) ∧ (l1 = nI 0 → Q (some (vI l0)) M))) :
    WA X d kc ns m_X11_divisor 0 [some (vI l0), some (vI l1)] [] M Q := by
  refine x_iload_n (tk K_X11_divisor 0 rfl) rfl rfl ?_
  refine x_if_ne (t := 8) (tk K_X11_divisor 1 rfl) rfl (fun hc => ?_) (fun hc => ?_)
  · have h := h.1 hc
    refine x_iload_n (tk K_X11_divisor 4 rfl) rfl rfl ?_
    refine x_iload_n (tk K_X11_divisor 5 rfl) rfl rfl ?_
    refine x_iload_n (tk K_X11_divisor 6 rfl) rfl rfl ?_
    refine x_iremR (tk K_X11_divisor 7 rfl) h.1 ?_
    have h := h.2
    refine x_callS0 (As := [vI _, vI _]) (S := []) (tk K_X11_divisor 8 rfl) mk_X11_239 mo_X11_divisor rfl rfl (Nat.le_of_ble_eq_true rfl) hd h (fun r M1 hq => ?_)
    obtain ⟨x1, rfl, hE, h⟩ := hq
    exact x_ireturn (tk K_X11_divisor 9 rfl) rfl rfl h
  · have h := h.2 hc
    refine x_iload_n (tk K_X11_divisor 2 rfl) rfl rfl ?_
    refine x_goto (t := 15) (tk K_X11_divisor 3 rfl) rfl ?_
    exact x_ireturn (tk K_X11_divisor 9 rfl) rfl rfl h

theorem e_X11_divisor {X : Cx} {d kc ns : Nat} {M : Mem} {Q : Option AV → Mem → Prop} {a0 : Int32} {a1 : Int32} (h : WA X d kc ns m_X11_divisor 0 [some (vI a0), some (vI a1)] [] M Q) : Cl X d kc ns m_X11_divisor [vI a0, vI a1] M Q := Cl.intro (k := 0) (by decide) rfl rfl h

-- TwoPencilsModel.farOf(III)I
theorem b_X11_farOf_0 {X : Cx} {d kc ns : Nat} {M : Mem} {Q : Option AV → Mem → Prop} {l1 : Int32} {l2 : Int32} {l3 : Int32} (hS : RfS M) (hd : 1 ≤ d)
    (h : Cl X (d - 1) 0 0 m_X11_allVotes [vR 75, vI (mI M 75 19), vI (nI 0)] M (fun r M1 => ∃ x1 : Int32, r = some (vI x1) ∧ Ext M M1 ∧ Cl X (d - 1) 0 0 m_X11_allVotes [vR 75, vI (mI M1 75 19), vI (nI 1)] M1 (fun r M2 => ∃ x2 : Int32, r = some (vI x2) ∧ Ext M1 M2 ∧ Cl X (d - 1) 0 0 m_X11_allVotes [vR 75, vI (mI M2 75 19), vI (nI 2)] M2 (fun r M3 => ∃ x3 : Int32, r = some (vI x3) ∧ Ext M2 M3 ∧ ∀ x4 : Int32, x4 = ((x1 + x2) + x3) → ((¬ x4 = nI 0 → Cl X (d - 1) 0 0 m_X11_wins [vR 75, vI l1, vI l2] M3 (fun r M4 => ∃ x5 : Int32, r = some (vI x5) ∧ Ext M3 M4 ∧ Cl X (d - 1) 0 0 m_X11_allVotes [vR 75, vI (mI M4 75 19), vI l2] M4 (fun r M5 => ∃ x6 : Int32, r = some (vI x6) ∧ Ext M4 M5 ∧ vp_in (mI M5 75 19) 7 ∧ WA X d kc ns m_X11_farOf 72 [some (vR 75), none, none, some (vI l3), some (vI x4), none, none, none] [vI (absI ((x5 * x4) - (x6 * (mI M5 78 (ix (mI M5 75 19))))))] M5 Q))) ∧ (x4 = nI 0 → WA X d kc ns m_X11_farOf 72 [some (vR 75), none, none, some (vI l3), some (vI x4), none, none, none] [vI (nI 0)] M3 Q)))))) :
    WA X d kc ns m_X11_farOf 0 [some (vR 75), some (vI l1), some (vI l2), some (vI l3), none, none, none, none] [] M Q := by
  refine x_aload_n (tk K_X11_farOf 0 rfl) rfl rfl ?_
  refine x_aload_n (tk K_X11_farOf 1 rfl) rfl rfl ?_
  refine x_getI (tk K_X11_farOf 2 rfl) f_X11_184 rfl (RfS.o hS) ?_
  refine x_iconst (tk K_X11_farOf 3 rfl) ic_0 ?_
  refine x_callV0 (As := [vI _, vI _]) (S := []) (tk K_X11_farOf 4 rfl) mk_X11_171 mo_X11_allVotes (RfS.o hS) rfl rfl (Nat.le_of_ble_eq_true rfl) hd h (fun r M1 hq => ?_)
  obtain ⟨x1, rfl, hE, h⟩ := hq
  have hT0 := RfS.ext hS hE
  refine x_aload_n (tk K_X11_farOf 5 rfl) rfl rfl ?_
  refine x_aload_n (tk K_X11_farOf 6 rfl) rfl rfl ?_
  refine x_getI (tk K_X11_farOf 7 rfl) f_X11_184 rfl (RfS.o hT0) ?_
  refine x_iconst (tk K_X11_farOf 8 rfl) ic_1 ?_
  refine x_callV0 (As := [vI _, vI _]) (S := [vI _]) (tk K_X11_farOf 9 rfl) mk_X11_171 mo_X11_allVotes (RfS.o hT0) rfl rfl (Nat.le_of_ble_eq_true rfl) hd h (fun r M2 hq => ?_)
  obtain ⟨x2, rfl, hE, h⟩ := hq
  have hT1 := RfS.ext hT0 hE
  refine x_iadd (tk K_X11_farOf 10 rfl) ?_
  refine x_aload_n (tk K_X11_farOf 11 rfl) rfl rfl ?_
  refine x_aload_n (tk K_X11_farOf 12 rfl) rfl rfl ?_
  refine x_getI (tk K_X11_farOf 13 rfl) f_X11_184 rfl (RfS.o hT1) ?_
  refine x_iconst (tk K_X11_farOf 14 rfl) ic_2 ?_
  refine x_callV0 (As := [vI _, vI _]) (S := [vI _]) (tk K_X11_farOf 15 rfl) mk_X11_171 mo_X11_allVotes (RfS.o hT1) rfl rfl (Nat.le_of_ble_eq_true rfl) hd h (fun r M3 hq => ?_)
  obtain ⟨x3, rfl, hE, h⟩ := hq
  have hT2 := RfS.ext hT1 hE
  refine x_iadd (tk K_X11_farOf 16 rfl) ?_
  have h := h _ rfl
  refine x_istore (L' := [some (vR _), some (vI _), some (vI _), some (vI _), some (vI _), none, none, none]) (tk K_X11_farOf 17 rfl) rfl (Nat.le_of_ble_eq_true rfl) rfl ?_
  refine x_iload (tk K_X11_farOf 18 rfl) rfl ?_
  refine x_if_ne (t := 40) (tk K_X11_farOf 19 rfl) rfl (fun hc => ?_) (fun hc => ?_)
  · have h := h.1 hc
    refine x_aload_n (tk K_X11_farOf 22 rfl) rfl rfl ?_
    refine x_iload_n (tk K_X11_farOf 23 rfl) rfl rfl ?_
    refine x_iload_n (tk K_X11_farOf 24 rfl) rfl rfl ?_
    refine x_callV0 (As := [vI _, vI _]) (S := []) (tk K_X11_farOf 25 rfl) mk_X11_230 mo_X11_wins (RfS.o hT2) rfl rfl (Nat.le_of_ble_eq_true rfl) hd h (fun r M4 hq => ?_)
    obtain ⟨x5, rfl, hE, h⟩ := hq
    have hT3 := RfS.ext hT2 hE
    refine x_iload (tk K_X11_farOf 26 rfl) rfl ?_
    refine x_imul (tk K_X11_farOf 27 rfl) ?_
    refine x_aload_n (tk K_X11_farOf 28 rfl) rfl rfl ?_
    refine x_aload_n (tk K_X11_farOf 29 rfl) rfl rfl ?_
    refine x_getI (tk K_X11_farOf 30 rfl) f_X11_184 rfl (RfS.o hT3) ?_
    refine x_iload_n (tk K_X11_farOf 31 rfl) rfl rfl ?_
    refine x_callV0 (As := [vI _, vI _]) (S := [vI _]) (tk K_X11_farOf 32 rfl) mk_X11_171 mo_X11_allVotes (RfS.o hT3) rfl rfl (Nat.le_of_ble_eq_true rfl) hd h (fun r M5 hq => ?_)
    obtain ⟨x6, rfl, hE, h⟩ := hq
    have hT4 := RfS.ext hT3 hE
    refine x_aload_n (tk K_X11_farOf 33 rfl) rfl rfl ?_
    refine x_getRc (tk K_X11_farOf 34 rfl) f_X11_16 rfl (RfS.o hT4) (RfS.r6 hT4) ?_
    refine x_aload_n (tk K_X11_farOf 35 rfl) rfl rfl ?_
    refine x_getI (tk K_X11_farOf 36 rfl) f_X11_184 rfl (RfS.o hT4) ?_
    have hi := h.1
    have h := h.2
    refine x_iald (tk K_X11_farOf 37 rfl) (RfS.k6 hT4) hi ?_
    refine x_imul (tk K_X11_farOf 38 rfl) ?_
    refine x_isub (tk K_X11_farOf 39 rfl) ?_
    refine x_mabs (tk K_X11_farOf 40 rfl) mx_X11_242 mx_abs_st mx_abs_co hd (Nat.le_of_ble_eq_true rfl) ?_
    refine x_msk [true, false, false, true, true, false, false, false] ?_
    exact h
  · have h := h.2 hc
    refine x_iconst (tk K_X11_farOf 20 rfl) ic_0 ?_
    refine x_goto (t := 72) (tk K_X11_farOf 21 rfl) rfl ?_
    refine x_msk [true, false, false, true, true, false, false, false] ?_
    exact h

theorem b_X11_farOf_72 {X : Cx} {d kc ns : Nat} {M : Mem} {Q : Option AV → Mem → Prop} {l3 : Int32} {l4 : Int32} {s0 : Int32} (hS : RfS M)
    (h : ((¬ l4 = nI 0 → vp_in (mI M 75 19) 7 ∧ WA X d kc ns m_X11_farOf 95 [some (vR 75), none, none, some (vI l3), none, some (vI s0), none, none] [vI ((mI M 78 (ix (mI M 75 19))) * l4)] M Q) ∧ (l4 = nI 0 → WA X d kc ns m_X11_farOf 95 [some (vR 75), none, none, some (vI l3), none, some (vI s0), none, none] [vI (nI 1)] M Q))) :
    WA X d kc ns m_X11_farOf 72 [some (vR 75), none, none, some (vI l3), some (vI l4), none, none, none] [vI s0] M Q := by
  refine x_istore (L' := [some (vR _), none, none, some (vI _), some (vI _), some (vI _), none, none]) (tk K_X11_farOf 41 rfl) rfl (Nat.le_of_ble_eq_true rfl) rfl ?_
  refine x_iload (tk K_X11_farOf 42 rfl) rfl ?_
  refine x_if_ne (t := 83) (tk K_X11_farOf 43 rfl) rfl (fun hc => ?_) (fun hc => ?_)
  · have h := h.1 hc
    refine x_aload_n (tk K_X11_farOf 46 rfl) rfl rfl ?_
    refine x_getRc (tk K_X11_farOf 47 rfl) f_X11_16 rfl (RfS.o hS) (RfS.r6 hS) ?_
    refine x_aload_n (tk K_X11_farOf 48 rfl) rfl rfl ?_
    refine x_getI (tk K_X11_farOf 49 rfl) f_X11_184 rfl (RfS.o hS) ?_
    have hi := h.1
    have h := h.2
    refine x_iald (tk K_X11_farOf 50 rfl) (RfS.k6 hS) hi ?_
    refine x_iload (tk K_X11_farOf 51 rfl) rfl ?_
    refine x_imul (tk K_X11_farOf 52 rfl) ?_
    refine x_msk [true, false, false, true, false, true, false, false] ?_
    exact h
  · have h := h.2 hc
    refine x_iconst (tk K_X11_farOf 44 rfl) ic_1 ?_
    refine x_goto (t := 95) (tk K_X11_farOf 45 rfl) rfl ?_
    refine x_msk [true, false, false, true, false, true, false, false] ?_
    exact h

theorem b_X11_farOf_95 {X : Cx} {d kc ns : Nat} {M : Mem} {Q : Option AV → Mem → Prop} {l3 : Int32} {l5 : Int32} {s0 : Int32} (hS : RfS M) (hd : 1 ≤ d)
    (h : Cl X (d - 1) 0 0 m_X11_divisor [vI s0, vI l5] M (fun r M1 => ∃ x1 : Int32, r = some (vI x1) ∧ Ext M M1 ∧ ((¬ l3 = nI 0 → ¬ x1 = nI 0 ∧ Q (some (vI (s0 / x1))) M1) ∧ (l3 = nI 0 → ¬ x1 = nI 0 ∧ Q (some (vI (l5 / x1))) M1)))) :
    WA X d kc ns m_X11_farOf 95 [some (vR 75), none, none, some (vI l3), none, some (vI l5), none, none] [vI s0] M Q := by
  refine x_istore (L' := [some (vR _), none, none, some (vI _), none, some (vI _), some (vI _), none]) (tk K_X11_farOf 53 rfl) rfl (Nat.le_of_ble_eq_true rfl) rfl ?_
  refine x_iload (tk K_X11_farOf 54 rfl) rfl ?_
  refine x_iload (tk K_X11_farOf 55 rfl) rfl ?_
  refine x_callS0 (As := [vI _, vI _]) (S := []) (tk K_X11_farOf 56 rfl) mk_X11_239 mo_X11_divisor rfl rfl (Nat.le_of_ble_eq_true rfl) hd h (fun r M1 hq => ?_)
  obtain ⟨x1, rfl, hE, h⟩ := hq
  have hT0 := RfS.ext hS hE
  refine x_istore (L' := [some (vR _), none, none, some (vI _), none, some (vI _), some (vI _), some (vI _)]) (tk K_X11_farOf 57 rfl) rfl (Nat.le_of_ble_eq_true rfl) rfl ?_
  refine x_iload_n (tk K_X11_farOf 58 rfl) rfl rfl ?_
  refine x_if_ne (t := 118) (tk K_X11_farOf 59 rfl) rfl (fun hc => ?_) (fun hc => ?_)
  · have h := h.1 hc
    refine x_iload (tk K_X11_farOf 64 rfl) rfl ?_
    refine x_iload (tk K_X11_farOf 65 rfl) rfl ?_
    refine x_idiv (tk K_X11_farOf 66 rfl) h.1 ?_
    have h := h.2
    exact x_ireturn (tk K_X11_farOf 67 rfl) rfl rfl h
  · have h := h.2 hc
    refine x_iload (tk K_X11_farOf 60 rfl) rfl ?_
    refine x_iload (tk K_X11_farOf 61 rfl) rfl ?_
    refine x_idiv (tk K_X11_farOf 62 rfl) h.1 ?_
    have h := h.2
    refine x_goto (t := 123) (tk K_X11_farOf 63 rfl) rfl ?_
    exact x_ireturn (tk K_X11_farOf 67 rfl) rfl rfl h

theorem e_X11_farOf {X : Cx} {d kc ns : Nat} {M : Mem} {Q : Option AV → Mem → Prop} {a1 : Int32} {a2 : Int32} {a3 : Int32} (h : WA X d kc ns m_X11_farOf 0 [some (vR 75), some (vI a1), some (vI a2), some (vI a3), none, none, none, none] [] M Q) : Cl X d kc ns m_X11_farOf [vR 75, vI a1, vI a2, vI a3] M Q := Cl.intro (k := 4) (by decide) rfl rfl h

-- TwoPencilsModel.far(IIII)I
theorem b_X11_far_0 {X : Cx} {d kc ns : Nat} {M : Mem} {Q : Option AV → Mem → Prop} {l1 : Int32} {l2 : Int32} {l3 : Int32} {l4 : Int32} (hS : RfS M) (hd : 1 ≤ d)
    (h : Cl X (d - 1) 0 0 m_X11_isParty [vI l3] M (fun r M1 => ∃ x1 : Int32, r = some (vI x1) ∧ Ext M M1 ∧ ((x1 = nI 0 → Q (some (vI (-1))) M1) ∧ (¬ x1 = nI 0 → Cl X (d - 1) 0 0 m_X11_in [vI l4, vI (nI 0), vI (nI 1)] M1 (fun r M2 => ∃ x2 : Int32, r = some (vI x2) ∧ Ext M1 M2 ∧ ((x2 = nI 0 → Q (some (vI (-1))) M2) ∧ (¬ x2 = nI 0 → Cl X (d - 1) 0 0 m_X11_isWell [vR 75, vI l1, vI l2] M2 (fun r M3 => ∃ x3 : Int32, r = some (vI x3) ∧ Ext M2 M3 ∧ ((x3 = nI 0 → Q (some (vI (-1))) M3) ∧ (¬ x3 = nI 0 → Cl X (d - 1) 0 0 m_X11_farOf [vR 75, vI l2, vI l3, vI l4] M3 (fun r M4 => ∃ x4 : Int32, r = some (vI x4) ∧ Ext M3 M4 ∧ Q (some (vI x4)) M4))))))))))) :
    WA X d kc ns m_X11_far 0 [some (vR 75), some (vI l1), some (vI l2), some (vI l3), some (vI l4)] [] M Q := by
  refine x_iload_n (tk K_X11_far 0 rfl) rfl rfl ?_
  refine x_callS0 (As := [vI _]) (S := []) (tk K_X11_far 1 rfl) mk_X11_227 mo_X11_isParty rfl rfl (Nat.le_of_ble_eq_true rfl) hd h (fun r M1 hq => ?_)
  obtain ⟨x1, rfl, hE, h⟩ := hq
  have hT0 := RfS.ext hS hE
  refine x_if_eq (t := 37) (tk K_X11_far 2 rfl) rfl (fun hc => ?_) (fun hc => ?_)
  · have h := h.1 hc
    refine x_iconst (tk K_X11_far 19 rfl) ic_m1 ?_
    exact x_ireturn (tk K_X11_far 20 rfl) rfl rfl h
  · have h := h.2 hc
    refine x_iload (tk K_X11_far 3 rfl) rfl ?_
    refine x_iconst (tk K_X11_far 4 rfl) ic_0 ?_
    refine x_iconst (tk K_X11_far 5 rfl) ic_1 ?_
    refine x_callS0 (As := [vI _, vI _, vI _]) (S := []) (tk K_X11_far 6 rfl) mk_X11_125 mo_X11_in rfl rfl (Nat.le_of_ble_eq_true rfl) hd h (fun r M2 hq => ?_)
    obtain ⟨x2, rfl, hE, h⟩ := hq
    have hT1 := RfS.ext hT0 hE
    refine x_if_eq (t := 37) (tk K_X11_far 7 rfl) rfl (fun hc => ?_) (fun hc => ?_)
    · have h := h.1 hc
      refine x_iconst (tk K_X11_far 19 rfl) ic_m1 ?_
      exact x_ireturn (tk K_X11_far 20 rfl) rfl rfl h
    · have h := h.2 hc
      refine x_aload_n (tk K_X11_far 8 rfl) rfl rfl ?_
      refine x_iload_n (tk K_X11_far 9 rfl) rfl rfl ?_
      refine x_iload_n (tk K_X11_far 10 rfl) rfl rfl ?_
      refine x_callV0 (As := [vI _, vI _]) (S := []) (tk K_X11_far 11 rfl) mk_X11_224 mo_X11_isWell (RfS.o hT1) rfl rfl (Nat.le_of_ble_eq_true rfl) hd h (fun r M3 hq => ?_)
      obtain ⟨x3, rfl, hE, h⟩ := hq
      have hT2 := RfS.ext hT1 hE
      refine x_if_eq (t := 37) (tk K_X11_far 12 rfl) rfl (fun hc => ?_) (fun hc => ?_)
      · have h := h.1 hc
        refine x_iconst (tk K_X11_far 19 rfl) ic_m1 ?_
        exact x_ireturn (tk K_X11_far 20 rfl) rfl rfl h
      · have h := h.2 hc
        refine x_aload_n (tk K_X11_far 13 rfl) rfl rfl ?_
        refine x_iload_n (tk K_X11_far 14 rfl) rfl rfl ?_
        refine x_iload_n (tk K_X11_far 15 rfl) rfl rfl ?_
        refine x_iload (tk K_X11_far 16 rfl) rfl ?_
        refine x_callV0 (As := [vI _, vI _, vI _]) (S := []) (tk K_X11_far 17 rfl) mk_X11_245 mo_X11_farOf (RfS.o hT2) rfl rfl (Nat.le_of_ble_eq_true rfl) hd h (fun r M4 hq => ?_)
        obtain ⟨x4, rfl, hE, h⟩ := hq
        have hT3 := RfS.ext hT2 hE
        refine x_goto (t := 38) (tk K_X11_far 18 rfl) rfl ?_
        exact x_ireturn (tk K_X11_far 20 rfl) rfl rfl h

theorem e_X11_far {X : Cx} {d kc ns : Nat} {M : Mem} {Q : Option AV → Mem → Prop} {a1 : Int32} {a2 : Int32} {a3 : Int32} {a4 : Int32} (h : WA X d kc ns m_X11_far 0 [some (vR 75), some (vI a1), some (vI a2), some (vI a3), some (vI a4)] [] M Q) : Cl X d kc ns m_X11_far [vR 75, vI a1, vI a2, vI a3, vI a4] M Q := Cl.intro (k := 0) (by decide) rfl rfl h

-- TwoPencilsModel.staysBy(IIII)I
theorem b_X11_staysBy_0 {X : Cx} {d kc ns : Nat} {M : Mem} {Q : Option AV → Mem → Prop} {l1 : Int32} {l2 : Int32} {l3 : Int32} {l4 : Int32} (hS : RfS M)
    (h : vp_in (mI M 75 19) 7 ∧ ((¬ l3 = (mI M 78 (ix (mI M 75 19))) → WA X d kc ns m_X11_staysBy 21 [some (vR 75), some (vI l1), some (vI l2), some (vI l3), some (vI l4), some (vI (nI 0)), some (vI (nI 0)), none] [] M Q) ∧ (l3 = (mI M 78 (ix (mI M 75 19))) → Q (some (vI (nI 0))) M))) :
    WA X d kc ns m_X11_staysBy 0 [some (vR 75), some (vI l1), some (vI l2), some (vI l3), some (vI l4), none, none, none] [] M Q := by
  refine x_iload_n (tk K_X11_staysBy 0 rfl) rfl rfl ?_
  refine x_aload_n (tk K_X11_staysBy 1 rfl) rfl rfl ?_
  refine x_getRc (tk K_X11_staysBy 2 rfl) f_X11_16 rfl (RfS.o hS) (RfS.r6 hS) ?_
  refine x_aload_n (tk K_X11_staysBy 3 rfl) rfl rfl ?_
  refine x_getI (tk K_X11_staysBy 4 rfl) f_X11_184 rfl (RfS.o hS) ?_
  have hi := h.1
  have h := h.2
  refine x_iald (tk K_X11_staysBy 5 rfl) (RfS.k6 hS) hi ?_
  refine x_icmp_ne (t := 15) (tk K_X11_staysBy 6 rfl) rfl (fun hc => ?_) (fun hc => ?_)
  · have h := h.1 hc
    refine x_iconst (tk K_X11_staysBy 9 rfl) ic_0 ?_
    refine x_istore (L' := [some (vR _), some (vI _), some (vI _), some (vI _), some (vI _), some (vI _), none, none]) (tk K_X11_staysBy 10 rfl) rfl (Nat.le_of_ble_eq_true rfl) rfl ?_
    refine x_iconst (tk K_X11_staysBy 11 rfl) ic_0 ?_
    refine x_istore (L' := [some (vR _), some (vI _), some (vI _), some (vI _), some (vI _), some (vI _), some (vI _), none]) (tk K_X11_staysBy 12 rfl) rfl (Nat.le_of_ble_eq_true rfl) rfl ?_
    exact h
  · have h := h.2 hc
    refine x_iconst (tk K_X11_staysBy 7 rfl) ic_0 ?_
    exact x_ireturn (tk K_X11_staysBy 8 rfl) rfl rfl h

theorem b_X11_staysBy_21 {X : Cx} {d kc ns : Nat} {M : Mem} {Q : Option AV → Mem → Prop} {l1 : Int32} {l2 : Int32} {l3 : Int32} {l4 : Int32} {l5 : Int32} {l6 : Int32} (hS : RfS M) (hd : 1 ≤ d)
    (h : vp_in (mI M 75 19) 7 ∧ (((mI M 78 (ix (mI M 75 19))) ≤ l6 → Q (some (vI l5)) M) ∧ (¬ (mI M 78 (ix (mI M 75 19))) ≤ l6 → ((¬ ((shr l4 l6) &&& (nI 1)) = nI 0 → WA X d kc ns m_X11_staysBy 21 [some (vR 75), some (vI l1), some (vI l2), some (vI l3), some (vI l4), some (vI l5), some (vI (l6 + (nI 1))), none] [] M Q) ∧ (((shr l4 l6) &&& (nI 1)) = nI 0 → Cl X (d - 1) 0 0 m_X11_whole [vR 75] M (fun r M1 => ∃ x1 : Int32, r = some (vI x1) ∧ Ext M M1 ∧ Cl X (d - 1) 0 0 m_X11_seatOf [vR 75, vI l1, vI x1, vI l3] M1 (fun r M2 => ∃ x2 : Int32, r = some (vI x2) ∧ Ext M1 M2 ∧ Cl X (d - 1) 0 0 m_X11_whole [vR 75] M2 (fun r M3 => ∃ x3 : Int32, r = some (vI x3) ∧ Ext M2 M3 ∧ Cl X (d - 1) 0 0 m_X11_seatOf [vR 75, vI l2, vI x3, vI l6] M3 (fun r M4 => ∃ x4 : Int32, r = some (vI x4) ∧ Ext M3 M4 ∧ Cl X (d - 1) 0 0 m_J6_bitCount_0f7a4 [vI (x2 &&& x4)] M4 (fun r M5 => ∃ x5 : Int32, r = some (vI x5) ∧ Ext M4 M5 ∧ Cl X (d - 1) 0 0 m_X11_staysBy [vR 75, vI l1, vI l2, vI (l3 + (nI 1)), vI (l4 ||| (shl (nI 1) l6))] M5 (fun r M6 => ∃ x6 : Int32, r = some (vI x6) ∧ Ext M5 M6 ∧ ∀ x7 : Int32, x7 = (maxI l5 (x5 + x6)) → WA X d kc ns m_X11_staysBy 21 [some (vR 75), some (vI l1), some (vI l2), some (vI l3), some (vI l4), some (vI x7), some (vI (l6 + (nI 1))), none] [] M6 Q))))))))))) :
    WA X d kc ns m_X11_staysBy 21 [some (vR 75), some (vI l1), some (vI l2), some (vI l3), some (vI l4), some (vI l5), some (vI l6), none] [] M Q := by
  refine x_iload (tk K_X11_staysBy 13 rfl) rfl ?_
  refine x_aload_n (tk K_X11_staysBy 14 rfl) rfl rfl ?_
  refine x_getRc (tk K_X11_staysBy 15 rfl) f_X11_16 rfl (RfS.o hS) (RfS.r6 hS) ?_
  refine x_aload_n (tk K_X11_staysBy 16 rfl) rfl rfl ?_
  refine x_getI (tk K_X11_staysBy 17 rfl) f_X11_184 rfl (RfS.o hS) ?_
  have hi := h.1
  have h := h.2
  refine x_iald (tk K_X11_staysBy 18 rfl) (RfS.k6 hS) hi ?_
  refine x_icmp_ge (t := 104) (tk K_X11_staysBy 19 rfl) rfl (fun hc => ?_) (fun hc => ?_)
  · have h := h.1 hc
    refine x_iload (tk K_X11_staysBy 60 rfl) rfl ?_
    exact x_ireturn (tk K_X11_staysBy 61 rfl) rfl rfl h
  · have h := h.2 hc
    refine x_iload (tk K_X11_staysBy 20 rfl) rfl ?_
    refine x_iload (tk K_X11_staysBy 21 rfl) rfl ?_
    refine x_ishr (tk K_X11_staysBy 22 rfl) ?_
    refine x_iconst (tk K_X11_staysBy 23 rfl) ic_1 ?_
    refine x_iand (tk K_X11_staysBy 24 rfl) ?_
    refine x_if_ne (t := 98) (tk K_X11_staysBy 25 rfl) rfl (fun hc => ?_) (fun hc => ?_)
    · have h := h.1 hc
      refine x_iincW (L' := [some (vR _), some (vI _), some (vI _), some (vI _), some (vI _), some (vI _), some (vI _), none]) (tk K_X11_staysBy 58 rfl) rfl ic_1 rfl (Nat.le_of_ble_eq_true rfl) rfl ?_
      refine x_goto (t := 21) (tk K_X11_staysBy 59 rfl) rfl ?_
      exact h
    · have h := h.2 hc
      refine x_aload_n (tk K_X11_staysBy 26 rfl) rfl rfl ?_
      refine x_iload_n (tk K_X11_staysBy 27 rfl) rfl rfl ?_
      refine x_aload_n (tk K_X11_staysBy 28 rfl) rfl rfl ?_
      refine x_callV0 (As := []) (S := [vI _, vR _]) (tk K_X11_staysBy 29 rfl) mk_X11_209 mo_X11_whole (RfS.o hS) rfl rfl (Nat.le_of_ble_eq_true rfl) hd h (fun r M1 hq => ?_)
      obtain ⟨x1, rfl, hE, h⟩ := hq
      have hT0 := RfS.ext hS hE
      have hT1 := hE.1 _ _ _ (RfS.k6 hS)
      refine x_iload_n (tk K_X11_staysBy 30 rfl) rfl rfl ?_
      refine x_callV0 (As := [vI _, vI _, vI _]) (S := []) (tk K_X11_staysBy 31 rfl) mk_X11_199 mo_X11_seatOf (RfS.o hT0) rfl rfl (Nat.le_of_ble_eq_true rfl) hd h (fun r M2 hq => ?_)
      obtain ⟨x2, rfl, hE, h⟩ := hq
      have hT2 := RfS.ext hT0 hE
      have hT3 := hE.1 _ _ _ hT1
      refine x_aload_n (tk K_X11_staysBy 32 rfl) rfl rfl ?_
      refine x_iload_n (tk K_X11_staysBy 33 rfl) rfl rfl ?_
      refine x_aload_n (tk K_X11_staysBy 34 rfl) rfl rfl ?_
      refine x_callV0 (As := []) (S := [vI _, vR _, vI _]) (tk K_X11_staysBy 35 rfl) mk_X11_209 mo_X11_whole (RfS.o hT2) rfl rfl (Nat.le_of_ble_eq_true rfl) hd h (fun r M3 hq => ?_)
      obtain ⟨x3, rfl, hE, h⟩ := hq
      have hT4 := RfS.ext hT2 hE
      have hT5 := hE.1 _ _ _ hT3
      refine x_iload (tk K_X11_staysBy 36 rfl) rfl ?_
      refine x_callV0 (As := [vI _, vI _, vI _]) (S := [vI _]) (tk K_X11_staysBy 37 rfl) mk_X11_199 mo_X11_seatOf (RfS.o hT4) rfl rfl (Nat.le_of_ble_eq_true rfl) hd h (fun r M4 hq => ?_)
      obtain ⟨x4, rfl, hE, h⟩ := hq
      have hT6 := RfS.ext hT4 hE
      have hT7 := hE.1 _ _ _ hT5
      refine x_iand (tk K_X11_staysBy 38 rfl) ?_
      refine x_callS0 (As := [vI _]) (S := []) (tk K_X11_staysBy 39 rfl) mk_X11_248 mo_J6_bitCount_0f7a4 rfl rfl (Nat.le_of_ble_eq_true rfl) hd h (fun r M5 hq => ?_)
      obtain ⟨x5, rfl, hE, h⟩ := hq
      have hT8 := RfS.ext hT6 hE
      have hT9 := hE.1 _ _ _ hT7
      refine x_istore (L' := [some (vR _), some (vI _), some (vI _), some (vI _), some (vI _), some (vI _), some (vI _), some (vI _)]) (tk K_X11_staysBy 40 rfl) rfl (Nat.le_of_ble_eq_true rfl) rfl ?_
      refine x_iload (tk K_X11_staysBy 41 rfl) rfl ?_
      refine x_iload (tk K_X11_staysBy 42 rfl) rfl ?_
      refine x_aload_n (tk K_X11_staysBy 43 rfl) rfl rfl ?_
      refine x_iload_n (tk K_X11_staysBy 44 rfl) rfl rfl ?_
      refine x_iload_n (tk K_X11_staysBy 45 rfl) rfl rfl ?_
      refine x_iload_n (tk K_X11_staysBy 46 rfl) rfl rfl ?_
      refine x_iconst (tk K_X11_staysBy 47 rfl) ic_1 ?_
      refine x_iadd (tk K_X11_staysBy 48 rfl) ?_
      refine x_iload (tk K_X11_staysBy 49 rfl) rfl ?_
      refine x_iconst (tk K_X11_staysBy 50 rfl) ic_1 ?_
      refine x_iload (tk K_X11_staysBy 51 rfl) rfl ?_
      refine x_ishl (tk K_X11_staysBy 52 rfl) ?_
      refine x_ior (tk K_X11_staysBy 53 rfl) ?_
      refine x_callV0 (As := [vI _, vI _, vI _, vI _]) (S := [vI _, vI _]) (tk K_X11_staysBy 54 rfl) mk_X11_253 mo_X11_staysBy (RfS.o hT8) rfl rfl (Nat.le_of_ble_eq_true rfl) hd h (fun r M6 hq => ?_)
      obtain ⟨x6, rfl, hE, h⟩ := hq
      have hT10 := RfS.ext hT8 hE
      have hT11 := hE.1 _ _ _ hT9
      refine x_iadd (tk K_X11_staysBy 55 rfl) ?_
      refine x_mmax (tk K_X11_staysBy 56 rfl) mx_X11_181 mx_max_st mx_max_co hd (Nat.le_of_ble_eq_true rfl) ?_
      have h := h _ rfl
      refine x_istore (L' := [some (vR _), some (vI _), some (vI _), some (vI _), some (vI _), some (vI _), some (vI _), some (vI _)]) (tk K_X11_staysBy 57 rfl) rfl (Nat.le_of_ble_eq_true rfl) rfl ?_
      refine x_iincW (L' := [some (vR _), some (vI _), some (vI _), some (vI _), some (vI _), some (vI _), some (vI _), some (vI _)]) (tk K_X11_staysBy 58 rfl) rfl ic_1 rfl (Nat.le_of_ble_eq_true rfl) rfl ?_
      refine x_goto (t := 21) (tk K_X11_staysBy 59 rfl) rfl ?_
      refine x_msk [true, true, true, true, true, true, true, false] ?_
      exact h

theorem e_X11_staysBy {X : Cx} {d kc ns : Nat} {M : Mem} {Q : Option AV → Mem → Prop} {a1 : Int32} {a2 : Int32} {a3 : Int32} {a4 : Int32} (h : WA X d kc ns m_X11_staysBy 0 [some (vR 75), some (vI a1), some (vI a2), some (vI a3), some (vI a4), none, none, none] [] M Q) : Cl X d kc ns m_X11_staysBy [vR 75, vI a1, vI a2, vI a3, vI a4] M Q := Cl.intro (k := 3) (by decide) rfl rfl h

-- TwoPencilsModel.apartOf(II)I
theorem b_X11_apartOf_0 {X : Cx} {d kc ns : Nat} {M : Mem} {Q : Option AV → Mem → Prop} {l1 : Int32} {l2 : Int32} (hS : RfS M) (hd : 1 ≤ d)
    (h : vp_in (mI M 75 19) 7 ∧ Cl X (d - 1) 0 0 m_X11_staysBy [vR 75, vI l1, vI l2, vI (nI 0), vI (nI 0)] M (fun r M1 => ∃ x1 : Int32, r = some (vI x1) ∧ Ext M M1 ∧ Q (some (vI ((mI M 77 (ix (mI M 75 19))) - x1))) M1)) :
    WA X d kc ns m_X11_apartOf 0 [some (vR 75), some (vI l1), some (vI l2)] [] M Q := by
  refine x_aload_n (tk K_X11_apartOf 0 rfl) rfl rfl ?_
  refine x_getRc (tk K_X11_apartOf 1 rfl) f_X11_13 rfl (RfS.o hS) (RfS.r5 hS) ?_
  refine x_aload_n (tk K_X11_apartOf 2 rfl) rfl rfl ?_
  refine x_getI (tk K_X11_apartOf 3 rfl) f_X11_184 rfl (RfS.o hS) ?_
  have hi := h.1
  have h := h.2
  refine x_iald (tk K_X11_apartOf 4 rfl) (RfS.k5 hS) hi ?_
  refine x_aload_n (tk K_X11_apartOf 5 rfl) rfl rfl ?_
  refine x_iload_n (tk K_X11_apartOf 6 rfl) rfl rfl ?_
  refine x_iload_n (tk K_X11_apartOf 7 rfl) rfl rfl ?_
  refine x_iconst (tk K_X11_apartOf 8 rfl) ic_0 ?_
  refine x_iconst (tk K_X11_apartOf 9 rfl) ic_0 ?_
  refine x_callV0 (As := [vI _, vI _, vI _, vI _]) (S := [vI _]) (tk K_X11_apartOf 10 rfl) mk_X11_253 mo_X11_staysBy (RfS.o hS) rfl rfl (Nat.le_of_ble_eq_true rfl) hd h (fun r M1 hq => ?_)
  obtain ⟨x1, rfl, hE, h⟩ := hq
  have hT0 := RfS.ext hS hE
  have hT1 := hE.1 _ _ _ (RfS.k5 hS)
  refine x_isub (tk K_X11_apartOf 11 rfl) ?_
  exact x_ireturn (tk K_X11_apartOf 12 rfl) rfl rfl h

theorem e_X11_apartOf {X : Cx} {d kc ns : Nat} {M : Mem} {Q : Option AV → Mem → Prop} {a1 : Int32} {a2 : Int32} (h : WA X d kc ns m_X11_apartOf 0 [some (vR 75), some (vI a1), some (vI a2)] [] M Q) : Cl X d kc ns m_X11_apartOf [vR 75, vI a1, vI a2] M Q := Cl.intro (k := 0) (by decide) rfl rfl h

-- TwoPencilsModel.apart(III)I
theorem b_X11_apart_0 {X : Cx} {d kc ns : Nat} {M : Mem} {Q : Option AV → Mem → Prop} {l1 : Int32} {l2 : Int32} {l3 : Int32} (hS : RfS M) (hd : 1 ≤ d)
    (h : Cl X (d - 1) 0 0 m_X11_judge [vR 75, vI l1, vI l2] M (fun r M1 => ∃ x1 : Int32, r = some (vI x1) ∧ Ext M M1 ∧ Cl X (d - 1) 0 0 m_X11_judge [vR 75, vI l1, vI l3] M1 (fun r M2 => ∃ x2 : Int32, r = some (vI x2) ∧ Ext M1 M2 ∧ ((x1 < nI 0 → Q (some (vI (-1))) M2) ∧ (¬ x1 < nI 0 → ((x2 < nI 0 → Q (some (vI (-1))) M2) ∧ (¬ x2 < nI 0 → ((x1 = (nI 1) → Q (some (vI (-1))) M2) ∧ (¬ x1 = (nI 1) → ((¬ x2 = (nI 1) → Cl X (d - 1) 0 0 m_X11_apartOf [vR 75, vI l2, vI l3] M2 (fun r M3 => ∃ x3 : Int32, r = some (vI x3) ∧ Ext M2 M3 ∧ Q (some (vI x3)) M3)) ∧ (x2 = (nI 1) → Q (some (vI (-1))) M2))))))))))) :
    WA X d kc ns m_X11_apart 0 [some (vR 75), some (vI l1), some (vI l2), some (vI l3), none, none] [] M Q := by
  refine x_aload_n (tk K_X11_apart 0 rfl) rfl rfl ?_
  refine x_iload_n (tk K_X11_apart 1 rfl) rfl rfl ?_
  refine x_iload_n (tk K_X11_apart 2 rfl) rfl rfl ?_
  refine x_callV0 (As := [vI _, vI _]) (S := []) (tk K_X11_apart 3 rfl) mk_X11_221 mo_X11_judge (RfS.o hS) rfl rfl (Nat.le_of_ble_eq_true rfl) hd h (fun r M1 hq => ?_)
  obtain ⟨x1, rfl, hE, h⟩ := hq
  have hT0 := RfS.ext hS hE
  refine x_istore (L' := [some (vR _), some (vI _), some (vI _), some (vI _), some (vI _), none]) (tk K_X11_apart 4 rfl) rfl (Nat.le_of_ble_eq_true rfl) rfl ?_
  refine x_aload_n (tk K_X11_apart 5 rfl) rfl rfl ?_
  refine x_iload_n (tk K_X11_apart 6 rfl) rfl rfl ?_
  refine x_iload_n (tk K_X11_apart 7 rfl) rfl rfl ?_
  refine x_callV0 (As := [vI _, vI _]) (S := []) (tk K_X11_apart 8 rfl) mk_X11_221 mo_X11_judge (RfS.o hT0) rfl rfl (Nat.le_of_ble_eq_true rfl) hd h (fun r M2 hq => ?_)
  obtain ⟨x2, rfl, hE, h⟩ := hq
  have hT1 := RfS.ext hT0 hE
  refine x_istore (L' := [some (vR _), some (vI _), some (vI _), some (vI _), some (vI _), some (vI _)]) (tk K_X11_apart 9 rfl) rfl (Nat.le_of_ble_eq_true rfl) rfl ?_
  refine x_iload (tk K_X11_apart 10 rfl) rfl ?_
  refine x_if_lt (t := 38) (tk K_X11_apart 11 rfl) rfl (fun hc => ?_) (fun hc => ?_)
  · have h := h.1 hc
    refine x_iconst (tk K_X11_apart 20 rfl) ic_m1 ?_
    refine x_goto (t := 48) (tk K_X11_apart 21 rfl) rfl ?_
    exact x_ireturn (tk K_X11_apart 26 rfl) rfl rfl h
  · have h := h.2 hc
    refine x_iload (tk K_X11_apart 12 rfl) rfl ?_
    refine x_if_lt (t := 38) (tk K_X11_apart 13 rfl) rfl (fun hc => ?_) (fun hc => ?_)
    · have h := h.1 hc
      refine x_iconst (tk K_X11_apart 20 rfl) ic_m1 ?_
      refine x_goto (t := 48) (tk K_X11_apart 21 rfl) rfl ?_
      exact x_ireturn (tk K_X11_apart 26 rfl) rfl rfl h
    · have h := h.2 hc
      refine x_iload (tk K_X11_apart 14 rfl) rfl ?_
      refine x_iconst (tk K_X11_apart 15 rfl) ic_1 ?_
      refine x_icmp_eq (t := 38) (tk K_X11_apart 16 rfl) rfl (fun hc => ?_) (fun hc => ?_)
      · have h := h.1 hc
        refine x_iconst (tk K_X11_apart 20 rfl) ic_m1 ?_
        refine x_goto (t := 48) (tk K_X11_apart 21 rfl) rfl ?_
        exact x_ireturn (tk K_X11_apart 26 rfl) rfl rfl h
      · have h := h.2 hc
        refine x_iload (tk K_X11_apart 17 rfl) rfl ?_
        refine x_iconst (tk K_X11_apart 18 rfl) ic_1 ?_
        refine x_icmp_ne (t := 42) (tk K_X11_apart 19 rfl) rfl (fun hc => ?_) (fun hc => ?_)
        · have h := h.1 hc
          refine x_aload_n (tk K_X11_apart 22 rfl) rfl rfl ?_
          refine x_iload_n (tk K_X11_apart 23 rfl) rfl rfl ?_
          refine x_iload_n (tk K_X11_apart 24 rfl) rfl rfl ?_
          refine x_callV0 (As := [vI _, vI _]) (S := []) (tk K_X11_apart 25 rfl) mk_X11_257 mo_X11_apartOf (RfS.o hT1) rfl rfl (Nat.le_of_ble_eq_true rfl) hd h (fun r M3 hq => ?_)
          obtain ⟨x3, rfl, hE, h⟩ := hq
          have hT2 := RfS.ext hT1 hE
          exact x_ireturn (tk K_X11_apart 26 rfl) rfl rfl h
        · have h := h.2 hc
          refine x_iconst (tk K_X11_apart 20 rfl) ic_m1 ?_
          refine x_goto (t := 48) (tk K_X11_apart 21 rfl) rfl ?_
          exact x_ireturn (tk K_X11_apart 26 rfl) rfl rfl h

theorem e_X11_apart {X : Cx} {d kc ns : Nat} {M : Mem} {Q : Option AV → Mem → Prop} {a1 : Int32} {a2 : Int32} {a3 : Int32} (h : WA X d kc ns m_X11_apart 0 [some (vR 75), some (vI a1), some (vI a2), some (vI a3), none, none] [] M Q) : Cl X d kc ns m_X11_apart [vR 75, vI a1, vI a2, vI a3] M Q := Cl.intro (k := 2) (by decide) rfl rfl h

-- TwoPencilsModel.moved(III)I
theorem b_X11_moved_0 {X : Cx} {d kc ns : Nat} {M : Mem} {Q : Option AV → Mem → Prop} {l1 : Int32} {l2 : Int32} {l3 : Int32} (hS : RfS M)
    (h : WA X d kc ns m_X11_moved 3 [some (vR 75), some (vI l1), some (vI l2), some (vI l3), some (vI (nI 0)), none, none, none] [] M Q) :
    WA X d kc ns m_X11_moved 0 [some (vR 75), some (vI l1), some (vI l2), some (vI l3), none, none, none, none] [] M Q := by
  refine x_iconst (tk K_X11_moved 0 rfl) ic_0 ?_
  refine x_istore (L' := [some (vR _), some (vI _), some (vI _), some (vI _), some (vI _), none, none, none]) (tk K_X11_moved 1 rfl) rfl (Nat.le_of_ble_eq_true rfl) rfl ?_
  exact h

theorem b_X11_moved_3 {X : Cx} {d kc ns : Nat} {M : Mem} {Q : Option AV → Mem → Prop} {l1 : Int32} {l2 : Int32} {l3 : Int32} {l4 : Int32} (hS : RfS M)
    (h : (((nI 4) ≤ l4 → WA X d kc ns m_X11_moved 32 [some (vR 75), some (vI l1), some (vI l2), some (vI l3), some (vI (nI 0)), some (vI (nI 0)), some (vI (nI 0)), none] [] M Q) ∧ (¬ (nI 4) ≤ l4 → vp_in l4 4 ∧ ∀ M1 : Mem, M1 = sI M 91 (ix l4) (-1) → WA X d kc ns m_X11_moved 3 [some (vR 75), some (vI l1), some (vI l2), some (vI l3), some (vI (l4 + (nI 1))), none, none, none] [] M1 Q))) :
    WA X d kc ns m_X11_moved 3 [some (vR 75), some (vI l1), some (vI l2), some (vI l3), some (vI l4), none, none, none] [] M Q := by
  refine x_iload (tk K_X11_moved 2 rfl) rfl ?_
  refine x_iconst (tk K_X11_moved 3 rfl) ic_4 ?_
  refine x_icmp_ge (t := 23) (tk K_X11_moved 4 rfl) rfl (fun hc => ?_) (fun hc => ?_)
  · have h := h.1 hc
    refine x_iconst (tk K_X11_moved 12 rfl) ic_0 ?_
    refine x_istore (L' := [some (vR _), some (vI _), some (vI _), some (vI _), some (vI _), none, none, none]) (tk K_X11_moved 13 rfl) rfl (Nat.le_of_ble_eq_true rfl) rfl ?_
    refine x_iconst (tk K_X11_moved 14 rfl) ic_0 ?_
    refine x_istore (L' := [some (vR _), some (vI _), some (vI _), some (vI _), some (vI _), some (vI _), none, none]) (tk K_X11_moved 15 rfl) rfl (Nat.le_of_ble_eq_true rfl) rfl ?_
    refine x_iconst (tk K_X11_moved 16 rfl) ic_0 ?_
    refine x_istore (L' := [some (vR _), some (vI _), some (vI _), some (vI _), some (vI _), some (vI _), some (vI _), none]) (tk K_X11_moved 17 rfl) rfl (Nat.le_of_ble_eq_true rfl) rfl ?_
    exact h
  · have h := h.2 hc
    refine x_aload_n (tk K_X11_moved 5 rfl) rfl rfl ?_
    refine x_getRc (tk K_X11_moved 6 rfl) f_X11_56 rfl (RfS.o hS) (RfS.r23 hS) ?_
    refine x_iload (tk K_X11_moved 7 rfl) rfl ?_
    refine x_iconst (tk K_X11_moved 8 rfl) ic_m1 ?_
    have hi := h.1
    have h := h.2
    have h := h _ rfl
    refine x_iast (tk K_X11_moved 9 rfl) (RfS.k23 hS) hi ?_
    refine x_iincW (L' := [some (vR _), some (vI _), some (vI _), some (vI _), some (vI _), none, none, none]) (tk K_X11_moved 10 rfl) rfl ic_1 rfl (Nat.le_of_ble_eq_true rfl) rfl ?_
    refine x_goto (t := 3) (tk K_X11_moved 11 rfl) rfl ?_
    exact h

theorem b_X11_moved_32 {X : Cx} {d kc ns : Nat} {M : Mem} {Q : Option AV → Mem → Prop} {l1 : Int32} {l2 : Int32} {l3 : Int32} {l4 : Int32} {l5 : Int32} {l6 : Int32} (hS : RfS M) (hd : 1 ≤ d)
    (h : vp_in (mI M 75 19) 7 ∧ (((mI M 77 (ix (mI M 75 19))) ≤ l6 → Q (some (vI l5)) M) ∧ (¬ (mI M 77 (ix (mI M 75 19))) ≤ l6 → ((¬ l6 = l2 → Cl X (d - 1) 0 0 m_X11_digit [vR 75, vI l1, vI l6] M (fun r M1 => ∃ x1 : Int32, r = some (vI x1) ∧ Ext M M1 ∧ WA X d kc ns m_X11_moved 63 [some (vR 75), some (vI l1), some (vI l2), some (vI l3), some (vI l4), some (vI l5), some (vI l6), none] [vI x1] M1 Q)) ∧ (l6 = l2 → WA X d kc ns m_X11_moved 63 [some (vR 75), some (vI l1), some (vI l2), some (vI l3), some (vI l4), some (vI l5), some (vI l6), none] [vI l3] M Q))))) :
    WA X d kc ns m_X11_moved 32 [some (vR 75), some (vI l1), some (vI l2), some (vI l3), some (vI l4), some (vI l5), some (vI l6), none] [] M Q := by
  refine x_iload (tk K_X11_moved 18 rfl) rfl ?_
  refine x_aload_n (tk K_X11_moved 19 rfl) rfl rfl ?_
  refine x_getRc (tk K_X11_moved 20 rfl) f_X11_13 rfl (RfS.o hS) (RfS.r5 hS) ?_
  refine x_aload_n (tk K_X11_moved 21 rfl) rfl rfl ?_
  refine x_getI (tk K_X11_moved 22 rfl) f_X11_184 rfl (RfS.o hS) ?_
  have hi := h.1
  have h := h.2
  refine x_iald (tk K_X11_moved 23 rfl) (RfS.k5 hS) hi ?_
  refine x_icmp_ge (t := 108) (tk K_X11_moved 24 rfl) rfl (fun hc => ?_) (fun hc => ?_)
  · have h := h.1 hc
    refine x_iload (tk K_X11_moved 58 rfl) rfl ?_
    exact x_ireturn (tk K_X11_moved 59 rfl) rfl rfl h
  · have h := h.2 hc
    refine x_iload (tk K_X11_moved 25 rfl) rfl ?_
    refine x_iload_n (tk K_X11_moved 26 rfl) rfl rfl ?_
    refine x_icmp_ne (t := 56) (tk K_X11_moved 27 rfl) rfl (fun hc => ?_) (fun hc => ?_)
    · have h := h.1 hc
      refine x_aload_n (tk K_X11_moved 30 rfl) rfl rfl ?_
      refine x_iload_n (tk K_X11_moved 31 rfl) rfl rfl ?_
      refine x_iload (tk K_X11_moved 32 rfl) rfl ?_
      refine x_callV0 (As := [vI _, vI _]) (S := []) (tk K_X11_moved 33 rfl) mk_X11_193 mo_X11_digit (RfS.o hS) rfl rfl (Nat.le_of_ble_eq_true rfl) hd h (fun r M1 hq => ?_)
      obtain ⟨x1, rfl, hE, h⟩ := hq
      have hT0 := RfS.ext hS hE
      have hT1 := hE.1 _ _ _ (RfS.k5 hS)
      exact h
    · have h := h.2 hc
      refine x_iload_n (tk K_X11_moved 28 rfl) rfl rfl ?_
      refine x_goto (t := 63) (tk K_X11_moved 29 rfl) rfl ?_
      exact h

theorem b_X11_moved_63 {X : Cx} {d kc ns : Nat} {M : Mem} {Q : Option AV → Mem → Prop} {l1 : Int32} {l2 : Int32} {l3 : Int32} {l4 : Int32} {l5 : Int32} {l6 : Int32} {s0 : Int32} (hS : RfS M)
    (h : vp_in s0 4 ∧ ((¬ (mI M 91 (ix s0)) = (-1) → WA X d kc ns m_X11_moved 88 [some (vR 75), some (vI l1), some (vI l2), some (vI l3), some (vI l4), some (vI l5), some (vI l6), some (vI s0)] [] M Q) ∧ ((mI M 91 (ix s0)) = (-1) → vp_in s0 4 ∧ ∀ M1 : Mem, M1 = sI M 91 (ix s0) l4 → WA X d kc ns m_X11_moved 88 [some (vR 75), some (vI l1), some (vI l2), some (vI l3), some (vI (l4 + (nI 1))), some (vI l5), some (vI l6), some (vI s0)] [] M1 Q))) :
    WA X d kc ns m_X11_moved 63 [some (vR 75), some (vI l1), some (vI l2), some (vI l3), some (vI l4), some (vI l5), some (vI l6), none] [vI s0] M Q := by
  refine x_istore (L' := [some (vR _), some (vI _), some (vI _), some (vI _), some (vI _), some (vI _), some (vI _), some (vI _)]) (tk K_X11_moved 34 rfl) rfl (Nat.le_of_ble_eq_true rfl) rfl ?_
  refine x_aload_n (tk K_X11_moved 35 rfl) rfl rfl ?_
  refine x_getRc (tk K_X11_moved 36 rfl) f_X11_56 rfl (RfS.o hS) (RfS.r23 hS) ?_
  refine x_iload (tk K_X11_moved 37 rfl) rfl ?_
  have hi := h.1
  have h := h.2
  refine x_iald (tk K_X11_moved 38 rfl) (RfS.k23 hS) hi ?_
  refine x_iconst (tk K_X11_moved 39 rfl) ic_m1 ?_
  refine x_icmp_ne (t := 88) (tk K_X11_moved 40 rfl) rfl (fun hc => ?_) (fun hc => ?_)
  · have h := h.1 hc
    exact h
  · have h := h.2 hc
    refine x_aload_n (tk K_X11_moved 41 rfl) rfl rfl ?_
    refine x_getRc (tk K_X11_moved 42 rfl) f_X11_56 rfl (RfS.o hS) (RfS.r23 hS) ?_
    refine x_iload (tk K_X11_moved 43 rfl) rfl ?_
    refine x_iload (tk K_X11_moved 44 rfl) rfl ?_
    have hi := h.1
    have h := h.2
    have h := h _ rfl
    refine x_iast (tk K_X11_moved 45 rfl) (RfS.k23 hS) hi ?_
    refine x_iincW (L' := [some (vR _), some (vI _), some (vI _), some (vI _), some (vI _), some (vI _), some (vI _), some (vI _)]) (tk K_X11_moved 46 rfl) rfl ic_1 rfl (Nat.le_of_ble_eq_true rfl) rfl ?_
    exact h

theorem b_X11_moved_88 {X : Cx} {d kc ns : Nat} {M : Mem} {Q : Option AV → Mem → Prop} {l1 : Int32} {l2 : Int32} {l3 : Int32} {l4 : Int32} {l5 : Int32} {l6 : Int32} {l7 : Int32} (hS : RfS M)
    (h : vp_in l7 4 ∧ ∀ x1 : Int32, x1 = (((nI 4) * l5) + (mI M 91 (ix l7))) → WA X d kc ns m_X11_moved 32 [some (vR 75), some (vI l1), some (vI l2), some (vI l3), some (vI l4), some (vI x1), some (vI (l6 + (nI 1))), none] [] M Q) :
    WA X d kc ns m_X11_moved 88 [some (vR 75), some (vI l1), some (vI l2), some (vI l3), some (vI l4), some (vI l5), some (vI l6), some (vI l7)] [] M Q := by
  refine x_iconst (tk K_X11_moved 47 rfl) ic_4 ?_
  refine x_iload (tk K_X11_moved 48 rfl) rfl ?_
  refine x_imul (tk K_X11_moved 49 rfl) ?_
  refine x_aload_n (tk K_X11_moved 50 rfl) rfl rfl ?_
  refine x_getRc (tk K_X11_moved 51 rfl) f_X11_56 rfl (RfS.o hS) (RfS.r23 hS) ?_
  refine x_iload (tk K_X11_moved 52 rfl) rfl ?_
  have hi := h.1
  have h := h.2
  refine x_iald (tk K_X11_moved 53 rfl) (RfS.k23 hS) hi ?_
  refine x_iadd (tk K_X11_moved 54 rfl) ?_
  have h := h _ rfl
  refine x_istore (L' := [some (vR _), some (vI _), some (vI _), some (vI _), some (vI _), some (vI _), some (vI _), some (vI _)]) (tk K_X11_moved 55 rfl) rfl (Nat.le_of_ble_eq_true rfl) rfl ?_
  refine x_iincW (L' := [some (vR _), some (vI _), some (vI _), some (vI _), some (vI _), some (vI _), some (vI _), some (vI _)]) (tk K_X11_moved 56 rfl) rfl ic_1 rfl (Nat.le_of_ble_eq_true rfl) rfl ?_
  refine x_goto (t := 32) (tk K_X11_moved 57 rfl) rfl ?_
  refine x_msk [true, true, true, true, true, true, true, false] ?_
  exact h

theorem e_X11_moved {X : Cx} {d kc ns : Nat} {M : Mem} {Q : Option AV → Mem → Prop} {a1 : Int32} {a2 : Int32} {a3 : Int32} (h : WA X d kc ns m_X11_moved 0 [some (vR 75), some (vI a1), some (vI a2), some (vI a3), none, none, none, none] [] M Q) : Cl X d kc ns m_X11_moved [vR 75, vI a1, vI a2, vI a3] M Q := Cl.intro (k := 4) (by decide) rfl rfl h

-- TwoPencilsModel.balance(I)I
theorem b_X11_balance_0 {X : Cx} {d kc ns : Nat} {M : Mem} {Q : Option AV → Mem → Prop} {l1 : Int32} (hS : RfS M) (hd : 1 ≤ d)
    (h : Cl X (d - 1) 0 0 m_X11_wins [vR 75, vI l1, vI (nI 0)] M (fun r M1 => ∃ x1 : Int32, r = some (vI x1) ∧ Ext M M1 ∧ Cl X (d - 1) 0 0 m_X11_wins [vR 75, vI l1, vI (nI 1)] M1 (fun r M2 => ∃ x2 : Int32, r = some (vI x2) ∧ Ext M1 M2 ∧ Q (some (vI (x1 - x2))) M2))) :
    WA X d kc ns m_X11_balance 0 [some (vR 75), some (vI l1)] [] M Q := by
  refine x_aload_n (tk K_X11_balance 0 rfl) rfl rfl ?_
  refine x_iload_n (tk K_X11_balance 1 rfl) rfl rfl ?_
  refine x_iconst (tk K_X11_balance 2 rfl) ic_0 ?_
  refine x_callV0 (As := [vI _, vI _]) (S := []) (tk K_X11_balance 3 rfl) mk_X11_230 mo_X11_wins (RfS.o hS) rfl rfl (Nat.le_of_ble_eq_true rfl) hd h (fun r M1 hq => ?_)
  obtain ⟨x1, rfl, hE, h⟩ := hq
  have hT0 := RfS.ext hS hE
  refine x_aload_n (tk K_X11_balance 4 rfl) rfl rfl ?_
  refine x_iload_n (tk K_X11_balance 5 rfl) rfl rfl ?_
  refine x_iconst (tk K_X11_balance 6 rfl) ic_1 ?_
  refine x_callV0 (As := [vI _, vI _]) (S := [vI _]) (tk K_X11_balance 7 rfl) mk_X11_230 mo_X11_wins (RfS.o hT0) rfl rfl (Nat.le_of_ble_eq_true rfl) hd h (fun r M2 hq => ?_)
  obtain ⟨x2, rfl, hE, h⟩ := hq
  have hT1 := RfS.ext hT0 hE
  refine x_isub (tk K_X11_balance 8 rfl) ?_
  exact x_ireturn (tk K_X11_balance 9 rfl) rfl rfl h

theorem e_X11_balance {X : Cx} {d kc ns : Nat} {M : Mem} {Q : Option AV → Mem → Prop} {a1 : Int32} (h : WA X d kc ns m_X11_balance 0 [some (vR 75), some (vI a1)] [] M Q) : Cl X d kc ns m_X11_balance [vR 75, vI a1] M Q := Cl.intro (k := 0) (by decide) rfl rfl h

-- TwoPencilsModel.isSettled(I)Z
theorem b_X11_isSettled_0 {X : Cx} {d kc ns : Nat} {M : Mem} {Q : Option AV → Mem → Prop} {l1 : Int32} (hS : RfS M)
    (h : WA X d kc ns m_X11_isSettled 2 [some (vR 75), some (vI l1), some (vI (nI 0)), none, none] [] M Q) :
    WA X d kc ns m_X11_isSettled 0 [some (vR 75), some (vI l1), none, none, none] [] M Q := by
  refine x_iconst (tk K_X11_isSettled 0 rfl) ic_0 ?_
  refine x_istore_n (L' := [some (vR _), some (vI _), some (vI _), none, none]) (tk K_X11_isSettled 1 rfl) rfl rfl (Nat.le_of_ble_eq_true rfl) rfl ?_
  exact h

theorem b_X11_isSettled_2 {X : Cx} {d kc ns : Nat} {M : Mem} {Q : Option AV → Mem → Prop} {l1 : Int32} {l2 : Int32} (hS : RfS M)
    (h : vp_in (mI M 75 19) 7 ∧ (((mI M 77 (ix (mI M 75 19))) ≤ l2 → Q (some (vI (nI 1))) M) ∧ (¬ (mI M 77 (ix (mI M 75 19))) ≤ l2 → WA X d kc ns m_X11_isSettled 17 [some (vR 75), some (vI l1), some (vI l2), some (vI (nI 0)), none] [] M Q))) :
    WA X d kc ns m_X11_isSettled 2 [some (vR 75), some (vI l1), some (vI l2), none, none] [] M Q := by
  refine x_iload_n (tk K_X11_isSettled 2 rfl) rfl rfl ?_
  refine x_aload_n (tk K_X11_isSettled 3 rfl) rfl rfl ?_
  refine x_getRc (tk K_X11_isSettled 4 rfl) f_X11_13 rfl (RfS.o hS) (RfS.r5 hS) ?_
  refine x_aload_n (tk K_X11_isSettled 5 rfl) rfl rfl ?_
  refine x_getI (tk K_X11_isSettled 6 rfl) f_X11_184 rfl (RfS.o hS) ?_
  have hi := h.1
  have h := h.2
  refine x_iald (tk K_X11_isSettled 7 rfl) (RfS.k5 hS) hi ?_
  refine x_icmp_ge (t := 82) (tk K_X11_isSettled 8 rfl) rfl (fun hc => ?_) (fun hc => ?_)
  · have h := h.1 hc
    refine x_iconst (tk K_X11_isSettled 44 rfl) ic_1 ?_
    exact x_ireturn (tk K_X11_isSettled 45 rfl) rfl (fitZ (Or.inr rfl)).1 h
  · have h := h.2 hc
    refine x_iconst (tk K_X11_isSettled 9 rfl) ic_0 ?_
    refine x_istore_n (L' := [some (vR _), some (vI _), some (vI _), some (vI _), none]) (tk K_X11_isSettled 10 rfl) rfl rfl (Nat.le_of_ble_eq_true rfl) rfl ?_
    exact h

theorem b_X11_isSettled_17 {X : Cx} {d kc ns : Nat} {M : Mem} {Q : Option AV → Mem → Prop} {l1 : Int32} {l2 : Int32} {l3 : Int32} (hS : RfS M) (hd : 1 ≤ d)
    (h : vp_in (mI M 75 19) 7 ∧ (((mI M 78 (ix (mI M 75 19))) ≤ l3 → WA X d kc ns m_X11_isSettled 2 [some (vR 75), some (vI l1), some (vI (l2 + (nI 1))), none, none] [] M Q) ∧ (¬ (mI M 78 (ix (mI M 75 19))) ≤ l3 → Cl X (d - 1) 0 0 m_X11_moved [vR 75, vI l1, vI l2, vI l3] M (fun r M1 => ∃ x1 : Int32, r = some (vI x1) ∧ Ext M M1 ∧ ((x1 = l1 → WA X d kc ns m_X11_isSettled 17 [some (vR 75), some (vI l1), some (vI l2), some (vI (l3 + (nI 1))), none] [] M1 Q) ∧ (¬ x1 = l1 → Cl X (d - 1) 0 0 m_X11_judged [vR 75, vI x1] M1 (fun r M2 => ∃ x2 : Int32, r = some (vI x2) ∧ Ext M1 M2 ∧ ((¬ x2 = nI 0 → WA X d kc ns m_X11_isSettled 17 [some (vR 75), some (vI l1), some (vI l2), some (vI (l3 + (nI 1))), none] [] M2 Q) ∧ (x2 = nI 0 → Cl X (d - 1) 0 0 m_X11_balance [vR 75, vI x1] M2 (fun r M3 => ∃ x3 : Int32, r = some (vI x3) ∧ Ext M2 M3 ∧ Cl X (d - 1) 0 0 m_X11_balance [vR 75, vI l1] M3 (fun r M4 => ∃ x4 : Int32, r = some (vI x4) ∧ Ext M3 M4 ∧ ((x3 = x4 → WA X d kc ns m_X11_isSettled 17 [some (vR 75), some (vI l1), some (vI l2), some (vI (l3 + (nI 1))), none] [] M4 Q) ∧ (¬ x3 = x4 → Q (some (vI (nI 0))) M4))))))))))))) :
    WA X d kc ns m_X11_isSettled 17 [some (vR 75), some (vI l1), some (vI l2), some (vI l3), none] [] M Q := by
  refine x_iload_n (tk K_X11_isSettled 11 rfl) rfl rfl ?_
  refine x_aload_n (tk K_X11_isSettled 12 rfl) rfl rfl ?_
  refine x_getRc (tk K_X11_isSettled 13 rfl) f_X11_16 rfl (RfS.o hS) (RfS.r6 hS) ?_
  refine x_aload_n (tk K_X11_isSettled 14 rfl) rfl rfl ?_
  refine x_getI (tk K_X11_isSettled 15 rfl) f_X11_184 rfl (RfS.o hS) ?_
  have hi := h.1
  have h := h.2
  refine x_iald (tk K_X11_isSettled 16 rfl) (RfS.k6 hS) hi ?_
  refine x_icmp_ge (t := 76) (tk K_X11_isSettled 17 rfl) rfl (fun hc => ?_) (fun hc => ?_)
  · have h := h.1 hc
    refine x_iincW (L' := [some (vR _), some (vI _), some (vI _), some (vI _), none]) (tk K_X11_isSettled 42 rfl) rfl ic_1 rfl (Nat.le_of_ble_eq_true rfl) rfl ?_
    refine x_goto (t := 2) (tk K_X11_isSettled 43 rfl) rfl ?_
    refine x_msk [true, true, true, false, false] ?_
    exact h
  · have h := h.2 hc
    refine x_aload_n (tk K_X11_isSettled 18 rfl) rfl rfl ?_
    refine x_iload_n (tk K_X11_isSettled 19 rfl) rfl rfl ?_
    refine x_iload_n (tk K_X11_isSettled 20 rfl) rfl rfl ?_
    refine x_iload_n (tk K_X11_isSettled 21 rfl) rfl rfl ?_
    refine x_callV0 (As := [vI _, vI _, vI _]) (S := []) (tk K_X11_isSettled 22 rfl) mk_X11_260 mo_X11_moved (RfS.o hS) rfl rfl (Nat.le_of_ble_eq_true rfl) hd h (fun r M1 hq => ?_)
    obtain ⟨x1, rfl, hE, h⟩ := hq
    have hT0 := RfS.ext hS hE
    have hT1 := hE.1 _ _ _ (RfS.k6 hS)
    refine x_istore (L' := [some (vR _), some (vI _), some (vI _), some (vI _), some (vI _)]) (tk K_X11_isSettled 23 rfl) rfl (Nat.le_of_ble_eq_true rfl) rfl ?_
    refine x_iload (tk K_X11_isSettled 24 rfl) rfl ?_
    refine x_iload_n (tk K_X11_isSettled 25 rfl) rfl rfl ?_
    refine x_icmp_eq (t := 70) (tk K_X11_isSettled 26 rfl) rfl (fun hc => ?_) (fun hc => ?_)
    · have h := h.1 hc
      refine x_iincW (L' := [some (vR _), some (vI _), some (vI _), some (vI _), some (vI _)]) (tk K_X11_isSettled 40 rfl) rfl ic_1 rfl (Nat.le_of_ble_eq_true rfl) rfl ?_
      refine x_goto (t := 17) (tk K_X11_isSettled 41 rfl) rfl ?_
      refine x_msk [true, true, true, true, false] ?_
      exact h
    · have h := h.2 hc
      refine x_aload_n (tk K_X11_isSettled 27 rfl) rfl rfl ?_
      refine x_iload (tk K_X11_isSettled 28 rfl) rfl ?_
      refine x_callV0 (As := [vI _]) (S := []) (tk K_X11_isSettled 29 rfl) mk_X11_218 mo_X11_judged (RfS.o hT0) rfl rfl (Nat.le_of_ble_eq_true rfl) hd h (fun r M2 hq => ?_)
      obtain ⟨x2, rfl, hE, h⟩ := hq
      have hT2 := RfS.ext hT0 hE
      have hT3 := hE.1 _ _ _ hT1
      refine x_if_ne (t := 70) (tk K_X11_isSettled 30 rfl) rfl (fun hc => ?_) (fun hc => ?_)
      · have h := h.1 hc
        refine x_iincW (L' := [some (vR _), some (vI _), some (vI _), some (vI _), some (vI _)]) (tk K_X11_isSettled 40 rfl) rfl ic_1 rfl (Nat.le_of_ble_eq_true rfl) rfl ?_
        refine x_goto (t := 17) (tk K_X11_isSettled 41 rfl) rfl ?_
        refine x_msk [true, true, true, true, false] ?_
        exact h
      · have h := h.2 hc
        refine x_aload_n (tk K_X11_isSettled 31 rfl) rfl rfl ?_
        refine x_iload (tk K_X11_isSettled 32 rfl) rfl ?_
        refine x_callV0 (As := [vI _]) (S := []) (tk K_X11_isSettled 33 rfl) mk_X11_263 mo_X11_balance (RfS.o hT2) rfl rfl (Nat.le_of_ble_eq_true rfl) hd h (fun r M3 hq => ?_)
        obtain ⟨x3, rfl, hE, h⟩ := hq
        have hT4 := RfS.ext hT2 hE
        have hT5 := hE.1 _ _ _ hT3
        refine x_aload_n (tk K_X11_isSettled 34 rfl) rfl rfl ?_
        refine x_iload_n (tk K_X11_isSettled 35 rfl) rfl rfl ?_
        refine x_callV0 (As := [vI _]) (S := [vI _]) (tk K_X11_isSettled 36 rfl) mk_X11_263 mo_X11_balance (RfS.o hT4) rfl rfl (Nat.le_of_ble_eq_true rfl) hd h (fun r M4 hq => ?_)
        obtain ⟨x4, rfl, hE, h⟩ := hq
        have hT6 := RfS.ext hT4 hE
        have hT7 := hE.1 _ _ _ hT5
        refine x_icmp_eq (t := 70) (tk K_X11_isSettled 37 rfl) rfl (fun hc => ?_) (fun hc => ?_)
        · have h := h.1 hc
          refine x_iincW (L' := [some (vR _), some (vI _), some (vI _), some (vI _), some (vI _)]) (tk K_X11_isSettled 40 rfl) rfl ic_1 rfl (Nat.le_of_ble_eq_true rfl) rfl ?_
          refine x_goto (t := 17) (tk K_X11_isSettled 41 rfl) rfl ?_
          refine x_msk [true, true, true, true, false] ?_
          exact h
        · have h := h.2 hc
          refine x_iconst (tk K_X11_isSettled 38 rfl) ic_0 ?_
          exact x_ireturn (tk K_X11_isSettled 39 rfl) rfl (fitZ (Or.inl rfl)).1 h

theorem e_X11_isSettled {X : Cx} {d kc ns : Nat} {M : Mem} {Q : Option AV → Mem → Prop} {a1 : Int32} (h : WA X d kc ns m_X11_isSettled 0 [some (vR 75), some (vI a1), none, none, none] [] M Q) : Cl X d kc ns m_X11_isSettled [vR 75, vI a1] M Q := Cl.intro (k := 3) (by decide) rfl rfl h

-- TwoPencilsModel.settled(II)I
theorem b_X11_settled_0 {X : Cx} {d kc ns : Nat} {M : Mem} {Q : Option AV → Mem → Prop} {l1 : Int32} {l2 : Int32} (hS : RfS M) (hd : 1 ≤ d)
    (h : Cl X (d - 1) 0 0 m_X11_isWell [vR 75, vI l1, vI l2] M (fun r M1 => ∃ x1 : Int32, r = some (vI x1) ∧ Ext M M1 ∧ ((x1 = nI 0 → Q (some (vI (-1))) M1) ∧ (¬ x1 = nI 0 → Cl X (d - 1) 0 0 m_X11_isSettled [vR 75, vI l2] M1 (fun r M2 => ∃ x2 : Int32, r = some (vI x2) ∧ Ext M1 M2 ∧ ((x2 = nI 0 → Q (some (vI (nI 0))) M2) ∧ (¬ x2 = nI 0 → Q (some (vI (nI 1))) M2))))))) :
    WA X d kc ns m_X11_settled 0 [some (vR 75), some (vI l1), some (vI l2)] [] M Q := by
  refine x_aload_n (tk K_X11_settled 0 rfl) rfl rfl ?_
  refine x_iload_n (tk K_X11_settled 1 rfl) rfl rfl ?_
  refine x_iload_n (tk K_X11_settled 2 rfl) rfl rfl ?_
  refine x_callV0 (As := [vI _, vI _]) (S := []) (tk K_X11_settled 3 rfl) mk_X11_224 mo_X11_isWell (RfS.o hS) rfl rfl (Nat.le_of_ble_eq_true rfl) hd h (fun r M1 hq => ?_)
  obtain ⟨x1, rfl, hE, h⟩ := hq
  have hT0 := RfS.ext hS hE
  refine x_if_eq (t := 25) (tk K_X11_settled 4 rfl) rfl (fun hc => ?_) (fun hc => ?_)
  · have h := h.1 hc
    refine x_iconst (tk K_X11_settled 13 rfl) ic_m1 ?_
    exact x_ireturn (tk K_X11_settled 14 rfl) rfl rfl h
  · have h := h.2 hc
    refine x_aload_n (tk K_X11_settled 5 rfl) rfl rfl ?_
    refine x_iload_n (tk K_X11_settled 6 rfl) rfl rfl ?_
    refine x_callV0 (As := [vI _]) (S := []) (tk K_X11_settled 7 rfl) mk_X11_266 mo_X11_isSettled (RfS.o hT0) rfl rfl (Nat.le_of_ble_eq_true rfl) hd h (fun r M2 hq => ?_)
    obtain ⟨x2, rfl, hE, h⟩ := hq
    have hT1 := RfS.ext hT0 hE
    refine x_if_eq (t := 21) (tk K_X11_settled 8 rfl) rfl (fun hc => ?_) (fun hc => ?_)
    · have h := h.1 hc
      refine x_iconst (tk K_X11_settled 11 rfl) ic_0 ?_
      refine x_goto (t := 26) (tk K_X11_settled 12 rfl) rfl ?_
      exact x_ireturn (tk K_X11_settled 14 rfl) rfl rfl h
    · have h := h.2 hc
      refine x_iconst (tk K_X11_settled 9 rfl) ic_1 ?_
      refine x_goto (t := 26) (tk K_X11_settled 10 rfl) rfl ?_
      exact x_ireturn (tk K_X11_settled 14 rfl) rfl rfl h

theorem e_X11_settled {X : Cx} {d kc ns : Nat} {M : Mem} {Q : Option AV → Mem → Prop} {a1 : Int32} {a2 : Int32} (h : WA X d kc ns m_X11_settled 0 [some (vR 75), some (vI a1), some (vI a2)] [] M Q) : Cl X d kc ns m_X11_settled [vR 75, vI a1, vI a2] M Q := Cl.intro (k := 0) (by decide) rfl rfl h

-- TwoPencilsModel.near(II)I
theorem b_X11_near_0 {X : Cx} {d kc ns : Nat} {M : Mem} {Q : Option AV → Mem → Prop} {l1 : Int32} {l2 : Int32} (hS : RfS M) (hd : 1 ≤ d)
    (h : Cl X (d - 1) 0 0 m_X11_judge [vR 75, vI l1, vI l2] M (fun r M1 => ∃ x1 : Int32, r = some (vI x1) ∧ Ext M M1 ∧ ((x1 < nI 0 → Q (some (vI (-1))) M1) ∧ (¬ x1 < nI 0 → ((¬ x1 = (nI 1) → Cl X (d - 1) 0 0 m_X11_listAll [vR 75, vI l1] M1 (fun r M2 => ∃ x2 : Int32, r = some (vI x2) ∧ Ext M1 M2 ∧ WA X d kc ns m_X11_near 34 [some (vR 75), none, some (vI l2), none, some (vI x2), some (vI (-1)), some (vI (nI 0)), some (vI (nI 0)), none, none] [] M2 Q)) ∧ (x1 = (nI 1) → Q (some (vI (-1))) M1)))))) :
    WA X d kc ns m_X11_near 0 [some (vR 75), some (vI l1), some (vI l2), none, none, none, none, none, none, none] [] M Q := by
  refine x_aload_n (tk K_X11_near 0 rfl) rfl rfl ?_
  refine x_iload_n (tk K_X11_near 1 rfl) rfl rfl ?_
  refine x_iload_n (tk K_X11_near 2 rfl) rfl rfl ?_
  refine x_callV0 (As := [vI _, vI _]) (S := []) (tk K_X11_near 3 rfl) mk_X11_221 mo_X11_judge (RfS.o hS) rfl rfl (Nat.le_of_ble_eq_true rfl) hd h (fun r M1 hq => ?_)
  obtain ⟨x1, rfl, hE, h⟩ := hq
  have hT0 := RfS.ext hS hE
  refine x_istore_n (L' := [some (vR _), some (vI _), some (vI _), some (vI _), none, none, none, none, none, none]) (tk K_X11_near 4 rfl) rfl rfl (Nat.le_of_ble_eq_true rfl) rfl ?_
  refine x_iload_n (tk K_X11_near 5 rfl) rfl rfl ?_
  refine x_if_lt (t := 16) (tk K_X11_near 6 rfl) rfl (fun hc => ?_) (fun hc => ?_)
  · have h := h.1 hc
    refine x_iconst (tk K_X11_near 10 rfl) ic_m1 ?_
    exact x_ireturn (tk K_X11_near 11 rfl) rfl rfl h
  · have h := h.2 hc
    refine x_iload_n (tk K_X11_near 7 rfl) rfl rfl ?_
    refine x_iconst (tk K_X11_near 8 rfl) ic_1 ?_
    refine x_icmp_ne (t := 18) (tk K_X11_near 9 rfl) rfl (fun hc => ?_) (fun hc => ?_)
    · have h := h.1 hc
      refine x_aload_n (tk K_X11_near 12 rfl) rfl rfl ?_
      refine x_iload_n (tk K_X11_near 13 rfl) rfl rfl ?_
      refine x_callV0 (As := [vI _]) (S := []) (tk K_X11_near 14 rfl) mk_X11_236 mo_X11_listAll (RfS.o hT0) rfl rfl (Nat.le_of_ble_eq_true rfl) hd h (fun r M2 hq => ?_)
      obtain ⟨x2, rfl, hE, h⟩ := hq
      have hT1 := RfS.ext hT0 hE
      refine x_istore (L' := [some (vR _), some (vI _), some (vI _), some (vI _), some (vI _), none, none, none, none, none]) (tk K_X11_near 15 rfl) rfl (Nat.le_of_ble_eq_true rfl) rfl ?_
      refine x_iconst (tk K_X11_near 16 rfl) ic_m1 ?_
      refine x_istore (L' := [some (vR _), some (vI _), some (vI _), some (vI _), some (vI _), some (vI _), none, none, none, none]) (tk K_X11_near 17 rfl) rfl (Nat.le_of_ble_eq_true rfl) rfl ?_
      refine x_iconst (tk K_X11_near 18 rfl) ic_0 ?_
      refine x_istore (L' := [some (vR _), some (vI _), some (vI _), some (vI _), some (vI _), some (vI _), some (vI _), none, none, none]) (tk K_X11_near 19 rfl) rfl (Nat.le_of_ble_eq_true rfl) rfl ?_
      refine x_iconst (tk K_X11_near 20 rfl) ic_0 ?_
      refine x_istore (L' := [some (vR _), some (vI _), some (vI _), some (vI _), some (vI _), some (vI _), some (vI _), some (vI _), none, none]) (tk K_X11_near 21 rfl) rfl (Nat.le_of_ble_eq_true rfl) rfl ?_
      refine x_msk [true, false, true, false, true, true, true, true, false, false] ?_
      exact h
    · have h := h.2 hc
      refine x_iconst (tk K_X11_near 10 rfl) ic_m1 ?_
      exact x_ireturn (tk K_X11_near 11 rfl) rfl rfl h

theorem b_X11_near_34 {X : Cx} {d kc ns : Nat} {M : Mem} {Q : Option AV → Mem → Prop} {l2 : Int32} {l4 : Int32} {l5 : Int32} {l6 : Int32} {l7 : Int32} (hS : RfS M) (hd : 1 ≤ d)
    (h : ((l4 ≤ l7 → Q (some (vI l5)) M) ∧ (¬ l4 ≤ l7 → vp_in l7 40000 ∧ ∀ x1 : Int32, x1 = (mI M 89 (ix l7)) → Cl X (d - 1) 0 0 m_X11_apartOf [vR 75, vI l2, vI x1] M (fun r M1 => ∃ x2 : Int32, r = some (vI x2) ∧ Ext M M1 ∧ ((l5 = (-1) → WA X d kc ns m_X11_near 72 [some (vR 75), none, some (vI l2), none, some (vI l4), some (vI l5), some (vI l6), some (vI l7), some (vI x1), some (vI x2)] [] M1 Q) ∧ (¬ l5 = (-1) → ((l6 ≤ x2 → WA X d kc ns m_X11_near 34 [some (vR 75), none, some (vI l2), none, some (vI l4), some (vI l5), some (vI l6), some (vI (l7 + (nI 1))), none, none] [] M1 Q) ∧ (¬ l6 ≤ x2 → WA X d kc ns m_X11_near 72 [some (vR 75), none, some (vI l2), none, some (vI l4), some (vI l5), some (vI l6), some (vI l7), some (vI x1), some (vI x2)] [] M1 Q)))))))) :
    WA X d kc ns m_X11_near 34 [some (vR 75), none, some (vI l2), none, some (vI l4), some (vI l5), some (vI l6), some (vI l7), none, none] [] M Q := by
  refine x_iload (tk K_X11_near 22 rfl) rfl ?_
  refine x_iload (tk K_X11_near 23 rfl) rfl ?_
  refine x_icmp_ge (t := 95) (tk K_X11_near 24 rfl) rfl (fun hc => ?_) (fun hc => ?_)
  · have h := h.1 hc
    refine x_iload (tk K_X11_near 51 rfl) rfl ?_
    exact x_ireturn (tk K_X11_near 52 rfl) rfl rfl h
  · have h := h.2 hc
    refine x_aload_n (tk K_X11_near 25 rfl) rfl rfl ?_
    refine x_getRc (tk K_X11_near 26 rfl) f_X11_50 rfl (RfS.o hS) (RfS.r20 hS) ?_
    refine x_iload (tk K_X11_near 27 rfl) rfl ?_
    have hi := h.1
    have h := h.2
    refine x_iald (tk K_X11_near 28 rfl) (RfS.k20 hS) hi ?_
    have h := h _ rfl
    refine x_istore (L' := [some (vR _), none, some (vI _), none, some (vI _), some (vI _), some (vI _), some (vI _), some (vI _), none]) (tk K_X11_near 29 rfl) rfl (Nat.le_of_ble_eq_true rfl) rfl ?_
    refine x_aload_n (tk K_X11_near 30 rfl) rfl rfl ?_
    refine x_iload_n (tk K_X11_near 31 rfl) rfl rfl ?_
    refine x_iload (tk K_X11_near 32 rfl) rfl ?_
    refine x_callV0 (As := [vI _, vI _]) (S := []) (tk K_X11_near 33 rfl) mk_X11_257 mo_X11_apartOf (RfS.o hS) rfl rfl (Nat.le_of_ble_eq_true rfl) hd h (fun r M1 hq => ?_)
    obtain ⟨x2, rfl, hE, h⟩ := hq
    have hT0 := RfS.ext hS hE
    have hT1 := hE.1 _ _ _ (RfS.k20 hS)
    refine x_istore (L' := [some (vR _), none, some (vI _), none, some (vI _), some (vI _), some (vI _), some (vI _), some (vI _), some (vI _)]) (tk K_X11_near 34 rfl) rfl (Nat.le_of_ble_eq_true rfl) rfl ?_
    refine x_iload (tk K_X11_near 35 rfl) rfl ?_
    refine x_iconst (tk K_X11_near 36 rfl) ic_m1 ?_
    refine x_icmp_eq (t := 72) (tk K_X11_near 37 rfl) rfl (fun hc => ?_) (fun hc => ?_)
    · have h := h.1 hc
      exact h
    · have h := h.2 hc
      refine x_iload (tk K_X11_near 38 rfl) rfl ?_
      refine x_iload (tk K_X11_near 39 rfl) rfl ?_
      refine x_icmp_ge (t := 89) (tk K_X11_near 40 rfl) rfl (fun hc => ?_) (fun hc => ?_)
      · have h := h.1 hc
        refine x_iincW (L' := [some (vR _), none, some (vI _), none, some (vI _), some (vI _), some (vI _), some (vI _), some (vI _), some (vI _)]) (tk K_X11_near 49 rfl) rfl ic_1 rfl (Nat.le_of_ble_eq_true rfl) rfl ?_
        refine x_goto (t := 34) (tk K_X11_near 50 rfl) rfl ?_
        refine x_msk [true, false, true, false, true, true, true, true, false, false] ?_
        exact h
      · have h := h.2 hc
        exact h

theorem b_X11_near_72 {X : Cx} {d kc ns : Nat} {M : Mem} {Q : Option AV → Mem → Prop} {l2 : Int32} {l4 : Int32} {l5 : Int32} {l6 : Int32} {l7 : Int32} {l8 : Int32} {l9 : Int32} (hS : RfS M) (hd : 1 ≤ d)
    (h : Cl X (d - 1) 0 0 m_X11_isSettled [vR 75, vI l8] M (fun r M1 => ∃ x1 : Int32, r = some (vI x1) ∧ Ext M M1 ∧ ((x1 = nI 0 → WA X d kc ns m_X11_near 34 [some (vR 75), none, some (vI l2), none, some (vI l4), some (vI l5), some (vI l6), some (vI (l7 + (nI 1))), none, none] [] M1 Q) ∧ (¬ x1 = nI 0 → WA X d kc ns m_X11_near 34 [some (vR 75), none, some (vI l2), none, some (vI l4), some (vI l8), some (vI l9), some (vI (l7 + (nI 1))), none, none] [] M1 Q)))) :
    WA X d kc ns m_X11_near 72 [some (vR 75), none, some (vI l2), none, some (vI l4), some (vI l5), some (vI l6), some (vI l7), some (vI l8), some (vI l9)] [] M Q := by
  refine x_aload_n (tk K_X11_near 41 rfl) rfl rfl ?_
  refine x_iload (tk K_X11_near 42 rfl) rfl ?_
  refine x_callV0 (As := [vI _]) (S := []) (tk K_X11_near 43 rfl) mk_X11_266 mo_X11_isSettled (RfS.o hS) rfl rfl (Nat.le_of_ble_eq_true rfl) hd h (fun r M1 hq => ?_)
  obtain ⟨x1, rfl, hE, h⟩ := hq
  have hT0 := RfS.ext hS hE
  refine x_if_eq (t := 89) (tk K_X11_near 44 rfl) rfl (fun hc => ?_) (fun hc => ?_)
  · have h := h.1 hc
    refine x_iincW (L' := [some (vR _), none, some (vI _), none, some (vI _), some (vI _), some (vI _), some (vI _), some (vI _), some (vI _)]) (tk K_X11_near 49 rfl) rfl ic_1 rfl (Nat.le_of_ble_eq_true rfl) rfl ?_
    refine x_goto (t := 34) (tk K_X11_near 50 rfl) rfl ?_
    refine x_msk [true, false, true, false, true, true, true, true, false, false] ?_
    exact h
  · have h := h.2 hc
    refine x_iload (tk K_X11_near 45 rfl) rfl ?_
    refine x_istore (L' := [some (vR _), none, some (vI _), none, some (vI _), some (vI _), some (vI _), some (vI _), some (vI _), some (vI _)]) (tk K_X11_near 46 rfl) rfl (Nat.le_of_ble_eq_true rfl) rfl ?_
    refine x_iload (tk K_X11_near 47 rfl) rfl ?_
    refine x_istore (L' := [some (vR _), none, some (vI _), none, some (vI _), some (vI _), some (vI _), some (vI _), some (vI _), some (vI _)]) (tk K_X11_near 48 rfl) rfl (Nat.le_of_ble_eq_true rfl) rfl ?_
    refine x_iincW (L' := [some (vR _), none, some (vI _), none, some (vI _), some (vI _), some (vI _), some (vI _), some (vI _), some (vI _)]) (tk K_X11_near 49 rfl) rfl ic_1 rfl (Nat.le_of_ble_eq_true rfl) rfl ?_
    refine x_goto (t := 34) (tk K_X11_near 50 rfl) rfl ?_
    refine x_msk [true, false, true, false, true, true, true, true, false, false] ?_
    exact h

theorem e_X11_near {X : Cx} {d kc ns : Nat} {M : Mem} {Q : Option AV → Mem → Prop} {a1 : Int32} {a2 : Int32} (h : WA X d kc ns m_X11_near 0 [some (vR 75), some (vI a1), some (vI a2), none, none, none, none, none, none, none] [] M Q) : Cl X d kc ns m_X11_near [vR 75, vI a1, vI a2] M Q := Cl.intro (k := 7) (by decide) rfl rfl h

-- TwoPencilsModel.walk(IIJI)I
theorem b_X11_walk_0 {X : Cx} {d kc ns : Nat} {M : Mem} {Q : Option AV → Mem → Prop} {l1 : Int32} {l2 : Int32} {l3 : Int64} {l5 : Int32} (hS : RfS M) (hd : 1 ≤ d)
    (h : Cl X (d - 1) 0 0 m_X11_in [vI l5, vI (nI 0), vI (nI 500)] M (fun r M1 => ∃ x1 : Int32, r = some (vI x1) ∧ Ext M M1 ∧ ((x1 = nI 0 → Q (some (vI (-1))) M1) ∧ (¬ x1 = nI 0 → Cl X (d - 1) 0 0 m_X11_isWell [vR 75, vI l1, vI l2] M1 (fun r M2 => ∃ x2 : Int32, r = some (vI x2) ∧ Ext M1 M2 ∧ ((¬ x2 = nI 0 → WA X d kc ns m_X11_walk 32 [some (vR 75), some (vI l1), none, none, none, some (vI l5), some (vI l2), some (vJ l3), none, some (vI (nI 0)), none, none, none] [] M2 Q) ∧ (x2 = nI 0 → Q (some (vI (-1))) M2))))))) :
    WA X d kc ns m_X11_walk 0 [some (vR 75), some (vI l1), some (vI l2), some (vJ l3), none, some (vI l5), none, none, none, none, none, none, none] [] M Q := by
  refine x_iload (tk K_X11_walk 0 rfl) rfl ?_
  refine x_iconst (tk K_X11_walk 1 rfl) ic_0 ?_
  refine x_sipush (tk K_X11_walk 2 rfl) sp_500 ?_
  refine x_callS0 (As := [vI _, vI _, vI _]) (S := []) (tk K_X11_walk 3 rfl) mk_X11_125 mo_X11_in rfl rfl (Nat.le_of_ble_eq_true rfl) hd h (fun r M1 hq => ?_)
  obtain ⟨x1, rfl, hE, h⟩ := hq
  have hT0 := RfS.ext hS hE
  refine x_if_eq (t := 21) (tk K_X11_walk 4 rfl) rfl (fun hc => ?_) (fun hc => ?_)
  · have h := h.1 hc
    refine x_iconst (tk K_X11_walk 10 rfl) ic_m1 ?_
    exact x_ireturn (tk K_X11_walk 11 rfl) rfl rfl h
  · have h := h.2 hc
    refine x_aload_n (tk K_X11_walk 5 rfl) rfl rfl ?_
    refine x_iload_n (tk K_X11_walk 6 rfl) rfl rfl ?_
    refine x_iload_n (tk K_X11_walk 7 rfl) rfl rfl ?_
    refine x_callV0 (As := [vI _, vI _]) (S := []) (tk K_X11_walk 8 rfl) mk_X11_224 mo_X11_isWell (RfS.o hT0) rfl rfl (Nat.le_of_ble_eq_true rfl) hd h (fun r M2 hq => ?_)
    obtain ⟨x2, rfl, hE, h⟩ := hq
    have hT1 := RfS.ext hT0 hE
    refine x_if_ne (t := 23) (tk K_X11_walk 9 rfl) rfl (fun hc => ?_) (fun hc => ?_)
    · have h := h.1 hc
      refine x_iload_n (tk K_X11_walk 12 rfl) rfl rfl ?_
      refine x_istore (L' := [some (vR _), some (vI _), some (vI _), some (vJ _), none, some (vI _), some (vI _), none, none, none, none, none, none]) (tk K_X11_walk 13 rfl) rfl (Nat.le_of_ble_eq_true rfl) rfl ?_
      refine x_lload_n (tk K_X11_walk 14 rfl) rfl rfl ?_
      refine x_lstore (L' := [some (vR _), some (vI _), some (vI _), some (vJ _), none, some (vI _), some (vI _), some (vJ _), none, none, none, none, none]) (tk K_X11_walk 15 rfl) rfl (Nat.le_of_ble_eq_true rfl) rfl ?_
      refine x_iconst (tk K_X11_walk 16 rfl) ic_0 ?_
      refine x_istore (L' := [some (vR _), some (vI _), some (vI _), some (vJ _), none, some (vI _), some (vI _), some (vJ _), none, some (vI _), none, none, none]) (tk K_X11_walk 17 rfl) rfl (Nat.le_of_ble_eq_true rfl) rfl ?_
      refine x_msk [true, true, false, false, false, true, true, true, false, true, false, false, false] ?_
      exact h
    · have h := h.2 hc
      refine x_iconst (tk K_X11_walk 10 rfl) ic_m1 ?_
      exact x_ireturn (tk K_X11_walk 11 rfl) rfl rfl h

theorem b_X11_walk_32 {X : Cx} {d kc ns : Nat} {M : Mem} {Q : Option AV → Mem → Prop} {l1 : Int32} {l5 : Int32} {l6 : Int32} {l7 : Int64} {l9 : Int32} (hS : RfS M) (hd : 1 ≤ d)
    (h : ((l5 ≤ l9 → Q (some (vI l6)) M) ∧ (¬ l5 ≤ l9 → vp_in l1 7 ∧ ¬ (Int32.toInt64 (mI M 77 (ix l1))) = 0 ∧ vp_in l1 7 ∧ ¬ (Int32.toInt64 (mI M 77 (ix l1))) = 0 ∧ vp_in l1 7 ∧ ¬ (Int32.toInt64 (mI M 78 (ix l1))) = 0 ∧ Cl X (d - 1) 0 0 m_X11_moved [vR 75, vI l6, vI (Int64.toInt32 ((lushr ((l7 * (6364136223846793005)) + (1442695040888963407)) (nI 33)) - (lushr ((l7 * (6364136223846793005)) + (1442695040888963407)) (nI 33)) / (Int32.toInt64 (mI M 77 (ix l1))) * (Int32.toInt64 (mI M 77 (ix l1))))), vI (Int64.toInt32 (((lushr ((l7 * (6364136223846793005)) + (1442695040888963407)) (nI 33)) / (Int32.toInt64 (mI M 77 (ix l1)))) - ((lushr ((l7 * (6364136223846793005)) + (1442695040888963407)) (nI 33)) / (Int32.toInt64 (mI M 77 (ix l1)))) / (Int32.toInt64 (mI M 78 (ix l1))) * (Int32.toInt64 (mI M 78 (ix l1)))))] M (fun r M1 => ∃ x1 : Int32, r = some (vI x1) ∧ Ext M M1 ∧ Cl X (d - 1) 0 0 m_X11_judged [vR 75, vI x1] M1 (fun r M2 => ∃ x2 : Int32, r = some (vI x2) ∧ Ext M1 M2 ∧ ((¬ x2 = nI 0 → WA X d kc ns m_X11_walk 32 [some (vR 75), some (vI l1), none, none, none, some (vI l5), some (vI l6), some (vJ ((l7 * (6364136223846793005)) + (1442695040888963407))), none, some (vI (l9 + (nI 1))), none, none, none] [] M2 Q) ∧ (x2 = nI 0 → WA X d kc ns m_X11_walk 32 [some (vR 75), some (vI l1), none, none, none, some (vI l5), some (vI x1), some (vJ ((l7 * (6364136223846793005)) + (1442695040888963407))), none, some (vI (l9 + (nI 1))), none, none, none] [] M2 Q))))))) :
    WA X d kc ns m_X11_walk 32 [some (vR 75), some (vI l1), none, none, none, some (vI l5), some (vI l6), some (vJ l7), none, some (vI l9), none, none, none] [] M Q := by
  refine x_iload (tk K_X11_walk 18 rfl) rfl ?_
  refine x_iload (tk K_X11_walk 19 rfl) rfl ?_
  refine x_icmp_ge (t := 120) (tk K_X11_walk 20 rfl) rfl (fun hc => ?_) (fun hc => ?_)
  · have h := h.1 hc
    refine x_iload (tk K_X11_walk 67 rfl) rfl ?_
    exact x_ireturn (tk K_X11_walk 68 rfl) rfl rfl h
  · have h := h.2 hc
    refine x_lload (tk K_X11_walk 21 rfl) rfl ?_
    refine x_ldc2 (tk K_X11_walk 22 rfl) kc_X11_269 ?_
    refine x_lmul (tk K_X11_walk 23 rfl) ?_
    refine x_ldc2 (tk K_X11_walk 24 rfl) kc_X11_271 ?_
    refine x_ladd (tk K_X11_walk 25 rfl) ?_
    refine x_lstore (L' := [some (vR _), some (vI _), none, none, none, some (vI _), some (vI _), some (vJ _), none, some (vI _), none, none, none]) (tk K_X11_walk 26 rfl) rfl (Nat.le_of_ble_eq_true rfl) rfl ?_
    refine x_lload (tk K_X11_walk 27 rfl) rfl ?_
    refine x_bipush (tk K_X11_walk 28 rfl) bp_33 ?_
    refine x_lushr (tk K_X11_walk 29 rfl) ?_
    refine x_lstore (L' := [some (vR _), some (vI _), none, none, none, some (vI _), some (vI _), some (vJ _), none, some (vI _), some (vJ _), none, none]) (tk K_X11_walk 30 rfl) rfl (Nat.le_of_ble_eq_true rfl) rfl ?_
    refine x_aload_n (tk K_X11_walk 31 rfl) rfl rfl ?_
    refine x_iload (tk K_X11_walk 32 rfl) rfl ?_
    refine x_lload (tk K_X11_walk 33 rfl) rfl ?_
    refine x_aload_n (tk K_X11_walk 34 rfl) rfl rfl ?_
    refine x_getRc (tk K_X11_walk 35 rfl) f_X11_13 rfl (RfS.o hS) (RfS.r5 hS) ?_
    refine x_iload_n (tk K_X11_walk 36 rfl) rfl rfl ?_
    have hi := h.1
    have h := h.2
    refine x_iald (tk K_X11_walk 37 rfl) (RfS.k5 hS) hi ?_
    refine x_i2l (tk K_X11_walk 38 rfl) ?_
    refine x_lrem (tk K_X11_walk 39 rfl) h.1 ?_
    have h := h.2
    refine x_l2i (tk K_X11_walk 40 rfl) ?_
    refine x_lload (tk K_X11_walk 41 rfl) rfl ?_
    refine x_aload_n (tk K_X11_walk 42 rfl) rfl rfl ?_
    refine x_getRc (tk K_X11_walk 43 rfl) f_X11_13 rfl (RfS.o hS) (RfS.r5 hS) ?_
    refine x_iload_n (tk K_X11_walk 44 rfl) rfl rfl ?_
    have hi := h.1
    have h := h.2
    refine x_iald (tk K_X11_walk 45 rfl) (RfS.k5 hS) hi ?_
    refine x_i2l (tk K_X11_walk 46 rfl) ?_
    refine x_ldiv (tk K_X11_walk 47 rfl) h.1 ?_
    have h := h.2
    refine x_aload_n (tk K_X11_walk 48 rfl) rfl rfl ?_
    refine x_getRc (tk K_X11_walk 49 rfl) f_X11_16 rfl (RfS.o hS) (RfS.r6 hS) ?_
    refine x_iload_n (tk K_X11_walk 50 rfl) rfl rfl ?_
    have hi := h.1
    have h := h.2
    refine x_iald (tk K_X11_walk 51 rfl) (RfS.k6 hS) hi ?_
    refine x_i2l (tk K_X11_walk 52 rfl) ?_
    refine x_lrem (tk K_X11_walk 53 rfl) h.1 ?_
    have h := h.2
    refine x_l2i (tk K_X11_walk 54 rfl) ?_
    refine x_callV0 (As := [vI _, vI _, vI _]) (S := []) (tk K_X11_walk 55 rfl) mk_X11_260 mo_X11_moved (RfS.o hS) rfl rfl (Nat.le_of_ble_eq_true rfl) hd h (fun r M1 hq => ?_)
    obtain ⟨x1, rfl, hE, h⟩ := hq
    have hT0 := RfS.ext hS hE
    have hT1 := hE.1 _ _ _ (RfS.k5 hS)
    have hT2 := hE.1 _ _ _ (RfS.k6 hS)
    refine x_istore (L' := [some (vR _), some (vI _), none, none, none, some (vI _), some (vI _), some (vJ _), none, some (vI _), some (vJ _), none, some (vI _)]) (tk K_X11_walk 56 rfl) rfl (Nat.le_of_ble_eq_true rfl) rfl ?_
    refine x_aload_n (tk K_X11_walk 57 rfl) rfl rfl ?_
    refine x_iload (tk K_X11_walk 58 rfl) rfl ?_
    refine x_callV0 (As := [vI _]) (S := []) (tk K_X11_walk 59 rfl) mk_X11_218 mo_X11_judged (RfS.o hT0) rfl rfl (Nat.le_of_ble_eq_true rfl) hd h (fun r M2 hq => ?_)
    obtain ⟨x2, rfl, hE, h⟩ := hq
    have hT3 := RfS.ext hT0 hE
    have hT4 := hE.1 _ _ _ hT1
    have hT5 := hE.1 _ _ _ hT2
    refine x_if_ne (t := 110) (tk K_X11_walk 60 rfl) rfl (fun hc => ?_) (fun hc => ?_)
    · have h := h.1 hc
      refine x_iload (tk K_X11_walk 63 rfl) rfl ?_
      refine x_istore (L' := [some (vR _), some (vI _), none, none, none, some (vI _), some (vI _), some (vJ _), none, some (vI _), some (vJ _), none, some (vI _)]) (tk K_X11_walk 64 rfl) rfl (Nat.le_of_ble_eq_true rfl) rfl ?_
      refine x_iincW (L' := [some (vR _), some (vI _), none, none, none, some (vI _), some (vI _), some (vJ _), none, some (vI _), some (vJ _), none, some (vI _)]) (tk K_X11_walk 65 rfl) rfl ic_1 rfl (Nat.le_of_ble_eq_true rfl) rfl ?_
      refine x_goto (t := 32) (tk K_X11_walk 66 rfl) rfl ?_
      refine x_msk [true, true, false, false, false, true, true, true, false, true, false, false, false] ?_
      exact h
    · have h := h.2 hc
      refine x_iload (tk K_X11_walk 61 rfl) rfl ?_
      refine x_goto (t := 112) (tk K_X11_walk 62 rfl) rfl ?_
      refine x_istore (L' := [some (vR _), some (vI _), none, none, none, some (vI _), some (vI _), some (vJ _), none, some (vI _), some (vJ _), none, some (vI _)]) (tk K_X11_walk 64 rfl) rfl (Nat.le_of_ble_eq_true rfl) rfl ?_
      refine x_iincW (L' := [some (vR _), some (vI _), none, none, none, some (vI _), some (vI _), some (vJ _), none, some (vI _), some (vJ _), none, some (vI _)]) (tk K_X11_walk 65 rfl) rfl ic_1 rfl (Nat.le_of_ble_eq_true rfl) rfl ?_
      refine x_goto (t := 32) (tk K_X11_walk 66 rfl) rfl ?_
      refine x_msk [true, true, false, false, false, true, true, true, false, true, false, false, false] ?_
      exact h

theorem e_X11_walk {X : Cx} {d kc ns : Nat} {M : Mem} {Q : Option AV → Mem → Prop} {a1 : Int32} {a2 : Int32} {a3 : Int64} {a4 : Int32} (h : WA X d kc ns m_X11_walk 0 [some (vR 75), some (vI a1), some (vI a2), some (vJ a3), none, some (vI a4), none, none, none, none, none, none, none] [] M Q) : Cl X d kc ns m_X11_walk [vR 75, vI a1, vI a2, vJ a3, vI a4] M Q := Cl.intro (k := 7) (by decide) rfl rfl h

-- TwoPencilsModel.doingNow()I
theorem b_X11_doingNow_0 {X : Cx} {d kc ns : Nat} {M : Mem} {Q : Option AV → Mem → Prop} (hS : RfS M)
    (h : vp_in (((nI 6) * (mI M 75 24)) + (mI M 75 28)) 54 ∧ Q (some (vI (mI M 86 (ix (((nI 6) * (mI M 75 24)) + (mI M 75 28)))))) M) :
    WA X d kc ns m_X11_doingNow 0 [some (vR 75)] [] M Q := by
  refine x_aload_n (tk K_X11_doingNow 0 rfl) rfl rfl ?_
  refine x_getRc (tk K_X11_doingNow 1 rfl) f_X11_40 rfl (RfS.o hS) (RfS.r15 hS) ?_
  refine x_bipush (tk K_X11_doingNow 2 rfl) bp_6 ?_
  refine x_aload_n (tk K_X11_doingNow 3 rfl) rfl rfl ?_
  refine x_getI (tk K_X11_doingNow 4 rfl) f_X11_273 rfl (RfS.o hS) ?_
  refine x_imul (tk K_X11_doingNow 5 rfl) ?_
  refine x_aload_n (tk K_X11_doingNow 6 rfl) rfl rfl ?_
  refine x_getI (tk K_X11_doingNow 7 rfl) f_X11_276 rfl (RfS.o hS) ?_
  refine x_iadd (tk K_X11_doingNow 8 rfl) ?_
  have hi := h.1
  have h := h.2
  refine x_iald (tk K_X11_doingNow 9 rfl) (RfS.k15 hS) hi ?_
  exact x_ireturn (tk K_X11_doingNow 10 rfl) rfl rfl h

theorem e_X11_doingNow {X : Cx} {d kc ns : Nat} {M : Mem} {Q : Option AV → Mem → Prop} (h : WA X d kc ns m_X11_doingNow 0 [some (vR 75)] [] M Q) : Cl X d kc ns m_X11_doingNow [vR 75] M Q := Cl.intro (k := 0) (by decide) rfl rfl h

-- TwoPencilsModel.firstNow()I
theorem b_X11_firstNow_0 {X : Cx} {d kc ns : Nat} {M : Mem} {Q : Option AV → Mem → Prop} (hS : RfS M)
    (h : vp_in (((nI 6) * (mI M 75 24)) + (mI M 75 28)) 54 ∧ Q (some (vI ((mI M 85 (ix (((nI 6) * (mI M 75 24)) + (mI M 75 28)))) ^^^ (mI M 75 25)))) M) :
    WA X d kc ns m_X11_firstNow 0 [some (vR 75)] [] M Q := by
  refine x_aload_n (tk K_X11_firstNow 0 rfl) rfl rfl ?_
  refine x_getRc (tk K_X11_firstNow 1 rfl) f_X11_37 rfl (RfS.o hS) (RfS.r14 hS) ?_
  refine x_bipush (tk K_X11_firstNow 2 rfl) bp_6 ?_
  refine x_aload_n (tk K_X11_firstNow 3 rfl) rfl rfl ?_
  refine x_getI (tk K_X11_firstNow 4 rfl) f_X11_273 rfl (RfS.o hS) ?_
  refine x_imul (tk K_X11_firstNow 5 rfl) ?_
  refine x_aload_n (tk K_X11_firstNow 6 rfl) rfl rfl ?_
  refine x_getI (tk K_X11_firstNow 7 rfl) f_X11_276 rfl (RfS.o hS) ?_
  refine x_iadd (tk K_X11_firstNow 8 rfl) ?_
  have hi := h.1
  have h := h.2
  refine x_iald (tk K_X11_firstNow 9 rfl) (RfS.k14 hS) hi ?_
  refine x_aload_n (tk K_X11_firstNow 10 rfl) rfl rfl ?_
  refine x_getI (tk K_X11_firstNow 11 rfl) f_X11_279 rfl (RfS.o hS) ?_
  refine x_ixor (tk K_X11_firstNow 12 rfl) ?_
  exact x_ireturn (tk K_X11_firstNow 13 rfl) rfl rfl h

theorem e_X11_firstNow {X : Cx} {d kc ns : Nat} {M : Mem} {Q : Option AV → Mem → Prop} (h : WA X d kc ns m_X11_firstNow 0 [some (vR 75)] [] M Q) : Cl X d kc ns m_X11_firstNow [vR 75] M Q := Cl.intro (k := 0) (by decide) rfl rfl h

-- TwoPencilsModel.startGame(III)V
theorem b_X11_startGame_0 {X : Cx} {d kc ns : Nat} {M : Mem} {Q : Option AV → Mem → Prop} {l1 : Int32} {l2 : Int32} {l3 : Int32} (hS : RfS M) (hd : 1 ≤ d)
    (h : Cl X (d - 1) 0 0 m_X11_prepare [vR 75, vI l1] M (fun r M1 => r = none ∧ Ext M M1 ∧ ∀ M2 : Mem, M2 = sI M1 75 24 l2 → ∀ M3 : Mem, M3 = sI M2 75 25 l3 → Cl X (d - 1) 0 0 m_X11_whole [vR 75] M3 (fun r M4 => ∃ x1 : Int32, r = some (vI x1) ∧ Ext M3 M4 ∧ ∀ M5 : Mem, M5 = sI M4 75 26 x1 → vp_in l1 7 ∧ ∀ M6 : Mem, M6 = sI M5 75 27 (mI M5 78 (ix l1)) → ∀ M7 : Mem, M7 = sI M6 75 28 (nI 0) → ∀ M8 : Mem, M8 = sI M7 75 32 (nI 0) → Cl X (d - 1) 0 0 m_X11_startRound [vR 75] M8 (fun r M9 => r = none ∧ Ext M8 M9 ∧ Q none M9)))) :
    WA X d kc ns m_X11_startGame 0 [some (vR 75), some (vI l1), some (vI l2), some (vI l3)] [] M Q := by
  refine x_aload_n (tk K_X11_startGame 0 rfl) rfl rfl ?_
  refine x_iload_n (tk K_X11_startGame 1 rfl) rfl rfl ?_
  refine x_callV0 (As := [vI _]) (S := []) (tk K_X11_startGame 2 rfl) mk_X11_215 mo_X11_prepare (RfS.o hS) rfl rfl (Nat.le_of_ble_eq_true rfl) hd h (fun r M1 hq => ?_)
  obtain ⟨rfl, hE, h⟩ := hq
  have hT0 := RfS.ext hS hE
  refine x_aload_n (tk K_X11_startGame 3 rfl) rfl rfl ?_
  refine x_iload_n (tk K_X11_startGame 4 rfl) rfl rfl ?_
  have h := h _ rfl
  refine x_putI (tk K_X11_startGame 5 rfl) f_X11_273 rfl (Or.inl rfl) (RfS.o hT0) ?_
  refine x_aload_n (tk K_X11_startGame 6 rfl) rfl rfl ?_
  refine x_iload_n (tk K_X11_startGame 7 rfl) rfl rfl ?_
  have h := h _ rfl
  refine x_putI (tk K_X11_startGame 8 rfl) f_X11_279 rfl (Or.inl rfl) (RfS.o hT0) ?_
  refine x_aload_n (tk K_X11_startGame 9 rfl) rfl rfl ?_
  refine x_aload_n (tk K_X11_startGame 10 rfl) rfl rfl ?_
  refine x_callV0 (As := []) (S := [vR _]) (tk K_X11_startGame 11 rfl) mk_X11_209 mo_X11_whole (RfS.o hT0) rfl rfl (Nat.le_of_ble_eq_true rfl) hd h (fun r M4 hq => ?_)
  obtain ⟨x1, rfl, hE, h⟩ := hq
  have hT1 := RfS.ext hT0 hE
  have h := h _ rfl
  refine x_putI (tk K_X11_startGame 12 rfl) f_X11_282 rfl (Or.inl rfl) (RfS.o hT1) ?_
  refine x_aload_n (tk K_X11_startGame 13 rfl) rfl rfl ?_
  refine x_aload_n (tk K_X11_startGame 14 rfl) rfl rfl ?_
  refine x_getRc (tk K_X11_startGame 15 rfl) f_X11_16 rfl (RfS.o hT1) (RfS.r6 hT1) ?_
  refine x_iload_n (tk K_X11_startGame 16 rfl) rfl rfl ?_
  have hi := h.1
  have h := h.2
  refine x_iald (tk K_X11_startGame 17 rfl) (RfS.k6 hT1) hi ?_
  have h := h _ rfl
  refine x_putI (tk K_X11_startGame 18 rfl) f_X11_285 rfl (Or.inl rfl) (RfS.o hT1) ?_
  refine x_aload_n (tk K_X11_startGame 19 rfl) rfl rfl ?_
  refine x_iconst (tk K_X11_startGame 20 rfl) ic_0 ?_
  have h := h _ rfl
  refine x_putI (tk K_X11_startGame 21 rfl) f_X11_276 rfl (Or.inl rfl) (RfS.o hT1) ?_
  refine x_aload_n (tk K_X11_startGame 22 rfl) rfl rfl ?_
  refine x_iconst (tk K_X11_startGame 23 rfl) ic_0 ?_
  have h := h _ rfl
  refine x_putI (tk K_X11_startGame 24 rfl) f_X11_288 rfl (Or.inl rfl) (RfS.o hT1) ?_
  refine x_aload_n (tk K_X11_startGame 25 rfl) rfl rfl ?_
  refine x_callV0 (As := []) (S := []) (tk K_X11_startGame 26 rfl) mk_X11_291 mo_X11_startRound (RfS.o hT1) rfl rfl (Nat.le_of_ble_eq_true rfl) hd h (fun r M9 hq => ?_)
  obtain ⟨rfl, hE, h⟩ := hq
  have hT2 := RfS.ext hT1 hE
  have hT3 := hE.1 _ _ _ (RfS.k6 hT1)
  exact x_return (tk K_X11_startGame 27 rfl) rfl h

theorem e_X11_startGame {X : Cx} {d kc ns : Nat} {M : Mem} {Q : Option AV → Mem → Prop} {a1 : Int32} {a2 : Int32} {a3 : Int32} (h : WA X d kc ns m_X11_startGame 0 [some (vR 75), some (vI a1), some (vI a2), some (vI a3)] [] M Q) : Cl X d kc ns m_X11_startGame [vR 75, vI a1, vI a2, vI a3] M Q := Cl.intro (k := 0) (by decide) rfl rfl h

-- TwoPencilsModel.startRound()V
theorem b_X11_startRound_0 {X : Cx} {d kc ns : Nat} {M : Mem} {Q : Option AV → Mem → Prop} (hS : RfS M) (hd : 1 ≤ d)
    (h : Cl X (d - 1) 0 0 m_X11_doingNow [vR 75] M (fun r M1 => ∃ x1 : Int32, r = some (vI x1) ∧ Ext M M1 ∧ ((¬ x1 = (nI 1) → Cl X (d - 1) 0 0 m_X11_list [vR 75, vI (mI M1 75 27), vI (mI M1 75 26), vI (mI M1 75 27)] M1 (fun r M2 => ∃ x2 : Int32, r = some (vI x2) ∧ Ext M1 M2 ∧ ((x2 ≤ nI 0 → WA X d kc ns m_X11_startRound 49 [some (vR 75), some (vI x1), none] [vI (nI 0)] M2 Q) ∧ (¬ x2 ≤ nI 0 → WA X d kc ns m_X11_startRound 49 [some (vR 75), some (vI x1), none] [vI (nI 1)] M2 Q)))) ∧ (x1 = (nI 1) → Cl X (d - 1) 0 0 m_X11_hasHalves [vR 75, vI (mI M1 75 26), vI (mI M1 75 27)] M1 (fun r M3 => ∃ x3 : Int32, r = some (vI x3) ∧ Ext M1 M3 ∧ WA X d kc ns m_X11_startRound 49 [some (vR 75), some (vI x1), none] [vI x3] M3 Q))))) :
    WA X d kc ns m_X11_startRound 0 [some (vR 75), none, none] [] M Q := by
  refine x_aload_n (tk K_X11_startRound 0 rfl) rfl rfl ?_
  refine x_callV0 (As := []) (S := []) (tk K_X11_startRound 1 rfl) mk_X11_294 mo_X11_doingNow (RfS.o hS) rfl rfl (Nat.le_of_ble_eq_true rfl) hd h (fun r M1 hq => ?_)
  obtain ⟨x1, rfl, hE, h⟩ := hq
  have hT0 := RfS.ext hS hE
  refine x_istore_n (L' := [some (vR _), some (vI _), none]) (tk K_X11_startRound 2 rfl) rfl rfl (Nat.le_of_ble_eq_true rfl) rfl ?_
  refine x_iload_n (tk K_X11_startRound 3 rfl) rfl rfl ?_
  refine x_iconst (tk K_X11_startRound 4 rfl) ic_1 ?_
  refine x_icmp_ne (t := 25) (tk K_X11_startRound 5 rfl) rfl (fun hc => ?_) (fun hc => ?_)
  · have h := h.1 hc
    refine x_aload_n (tk K_X11_startRound 13 rfl) rfl rfl ?_
    refine x_aload_n (tk K_X11_startRound 14 rfl) rfl rfl ?_
    refine x_getI (tk K_X11_startRound 15 rfl) f_X11_285 rfl (RfS.o hT0) ?_
    refine x_aload_n (tk K_X11_startRound 16 rfl) rfl rfl ?_
    refine x_getI (tk K_X11_startRound 17 rfl) f_X11_282 rfl (RfS.o hT0) ?_
    refine x_aload_n (tk K_X11_startRound 18 rfl) rfl rfl ?_
    refine x_getI (tk K_X11_startRound 19 rfl) f_X11_285 rfl (RfS.o hT0) ?_
    refine x_callV0 (As := [vI _, vI _, vI _]) (S := []) (tk K_X11_startRound 20 rfl) mk_X11_233 mo_X11_list (RfS.o hT0) rfl rfl (Nat.le_of_ble_eq_true rfl) hd h (fun r M2 hq => ?_)
    obtain ⟨x2, rfl, hE, h⟩ := hq
    have hT1 := RfS.ext hT0 hE
    refine x_if_le (t := 48) (tk K_X11_startRound 21 rfl) rfl (fun hc => ?_) (fun hc => ?_)
    · have h := h.1 hc
      refine x_iconst (tk K_X11_startRound 24 rfl) ic_0 ?_
      exact h
    · have h := h.2 hc
      refine x_iconst (tk K_X11_startRound 22 rfl) ic_1 ?_
      refine x_goto (t := 49) (tk K_X11_startRound 23 rfl) rfl ?_
      exact h
  · have h := h.2 hc
    refine x_aload_n (tk K_X11_startRound 6 rfl) rfl rfl ?_
    refine x_aload_n (tk K_X11_startRound 7 rfl) rfl rfl ?_
    refine x_getI (tk K_X11_startRound 8 rfl) f_X11_282 rfl (RfS.o hT0) ?_
    refine x_aload_n (tk K_X11_startRound 9 rfl) rfl rfl ?_
    refine x_getI (tk K_X11_startRound 10 rfl) f_X11_285 rfl (RfS.o hT0) ?_
    refine x_callV0 (As := [vI _, vI _]) (S := []) (tk K_X11_startRound 11 rfl) mk_X11_297 mo_X11_hasHalves (RfS.o hT0) rfl rfl (Nat.le_of_ble_eq_true rfl) hd h (fun r M3 hq => ?_)
    obtain ⟨x3, rfl, hE, h⟩ := hq
    have hT2 := RfS.ext hT0 hE
    refine x_goto (t := 49) (tk K_X11_startRound 12 rfl) rfl ?_
    exact h

theorem b_X11_startRound_49 {X : Cx} {d kc ns : Nat} {M : Mem} {Q : Option AV → Mem → Prop} {l1 : Int32} {s0 : Int32} (hS : RfS M)
    (h : ((¬ s0 = nI 0 → ((¬ l1 = nI 0 → ((¬ l1 = (nI 3) → ((¬ l1 = (nI 1) → WA X d kc ns m_X11_startRound 87 [some (vR 75), none, none] [vI (nI 5), vR 75] M Q) ∧ (l1 = (nI 1) → WA X d kc ns m_X11_startRound 87 [some (vR 75), none, none] [vI (nI 3), vR 75] M Q))) ∧ (l1 = (nI 3) → WA X d kc ns m_X11_startRound 87 [some (vR 75), none, none] [vI (nI 2), vR 75] M Q))) ∧ (l1 = nI 0 → WA X d kc ns m_X11_startRound 87 [some (vR 75), none, none] [vI (nI 0), vR 75] M Q))) ∧ (s0 = nI 0 → WA X d kc ns m_X11_startRound 87 [some (vR 75), none, none] [vI (nI 9), vR 75] M Q))) :
    WA X d kc ns m_X11_startRound 49 [some (vR 75), some (vI l1), none] [vI s0] M Q := by
  refine x_istore_n (L' := [some (vR _), some (vI _), some (vI _)]) (tk K_X11_startRound 25 rfl) rfl rfl (Nat.le_of_ble_eq_true rfl) rfl ?_
  refine x_aload_n (tk K_X11_startRound 26 rfl) rfl rfl ?_
  refine x_iload_n (tk K_X11_startRound 27 rfl) rfl rfl ?_
  refine x_if_ne (t := 60) (tk K_X11_startRound 28 rfl) rfl (fun hc => ?_) (fun hc => ?_)
  · have h := h.1 hc
    refine x_iload_n (tk K_X11_startRound 31 rfl) rfl rfl ?_
    refine x_if_ne (t := 68) (tk K_X11_startRound 32 rfl) rfl (fun hc => ?_) (fun hc => ?_)
    · have h := h.1 hc
      refine x_iload_n (tk K_X11_startRound 35 rfl) rfl rfl ?_
      refine x_iconst (tk K_X11_startRound 36 rfl) ic_3 ?_
      refine x_icmp_ne (t := 77) (tk K_X11_startRound 37 rfl) rfl (fun hc => ?_) (fun hc => ?_)
      · have h := h.1 hc
        refine x_iload_n (tk K_X11_startRound 40 rfl) rfl rfl ?_
        refine x_iconst (tk K_X11_startRound 41 rfl) ic_1 ?_
        refine x_icmp_ne (t := 86) (tk K_X11_startRound 42 rfl) rfl (fun hc => ?_) (fun hc => ?_)
        · have h := h.1 hc
          refine x_iconst (tk K_X11_startRound 45 rfl) ic_5 ?_
          refine x_msk [true, false, false] ?_
          exact h
        · have h := h.2 hc
          refine x_iconst (tk K_X11_startRound 43 rfl) ic_3 ?_
          refine x_goto (t := 87) (tk K_X11_startRound 44 rfl) rfl ?_
          refine x_msk [true, false, false] ?_
          exact h
      · have h := h.2 hc
        refine x_iconst (tk K_X11_startRound 38 rfl) ic_2 ?_
        refine x_goto (t := 87) (tk K_X11_startRound 39 rfl) rfl ?_
        refine x_msk [true, false, false] ?_
        exact h
    · have h := h.2 hc
      refine x_iconst (tk K_X11_startRound 33 rfl) ic_0 ?_
      refine x_goto (t := 87) (tk K_X11_startRound 34 rfl) rfl ?_
      refine x_msk [true, false, false] ?_
      exact h
  · have h := h.2 hc
    refine x_bipush (tk K_X11_startRound 29 rfl) bp_9 ?_
    refine x_goto (t := 87) (tk K_X11_startRound 30 rfl) rfl ?_
    refine x_msk [true, false, false] ?_
    exact h

theorem b_X11_startRound_87 {X : Cx} {d kc ns : Nat} {M : Mem} {Q : Option AV → Mem → Prop} {s1 : Int32} (hS : RfS M)
    (h : ∀ M1 : Mem, M1 = sI M 75 29 s1 → Q none M1) :
    WA X d kc ns m_X11_startRound 87 [some (vR 75), none, none] [vI s1, vR 75] M Q := by
  have h := h _ rfl
  refine x_putI (tk K_X11_startRound 46 rfl) f_X11_300 rfl (Or.inl rfl) (RfS.o hS) ?_
  exact x_return (tk K_X11_startRound 47 rfl) rfl h

theorem e_X11_startRound {X : Cx} {d kc ns : Nat} {M : Mem} {Q : Option AV → Mem → Prop} (h : WA X d kc ns m_X11_startRound 0 [some (vR 75), none, none] [] M Q) : Cl X d kc ns m_X11_startRound [vR 75] M Q := Cl.intro (k := 2) (by decide) rfl rfl h

-- TwoPencilsModel.keep(I)V
theorem b_X11_keep_0 {X : Cx} {d kc ns : Nat} {M : Mem} {Q : Option AV → Mem → Prop} {l1 : Int32} (hS : RfS M)
    (h : vp_in (mI M 75 32) 4 ∧ ∀ M1 : Mem, M1 = sI M 92 (ix (mI M 75 32)) l1 → ∀ M2 : Mem, M2 = sI M1 75 32 ((mI M1 75 32) + (nI 1)) → ∀ M3 : Mem, M3 = sI M2 75 26 ((mI M2 75 26) &&& (l1 ^^^ (-1))) → ∀ M4 : Mem, M4 = sI M3 75 27 ((mI M3 75 27) - (nI 1)) → Q none M4) :
    WA X d kc ns m_X11_keep 0 [some (vR 75), some (vI l1)] [] M Q := by
  refine x_aload_n (tk K_X11_keep 0 rfl) rfl rfl ?_
  refine x_getRc (tk K_X11_keep 1 rfl) f_X11_59 rfl (RfS.o hS) (RfS.r33 hS) ?_
  refine x_aload_n (tk K_X11_keep 2 rfl) rfl rfl ?_
  refine x_getI (tk K_X11_keep 3 rfl) f_X11_288 rfl (RfS.o hS) ?_
  refine x_iload_n (tk K_X11_keep 4 rfl) rfl rfl ?_
  have hi := h.1
  have h := h.2
  have h := h _ rfl
  refine x_iast (tk K_X11_keep 5 rfl) (RfS.k33 hS) hi ?_
  refine x_aload_n (tk K_X11_keep 6 rfl) rfl rfl ?_
  refine x_dup (tk K_X11_keep 7 rfl) rfl ?_
  refine x_getI (tk K_X11_keep 8 rfl) f_X11_288 rfl (RfS.o hS) ?_
  refine x_iconst (tk K_X11_keep 9 rfl) ic_1 ?_
  refine x_iadd (tk K_X11_keep 10 rfl) ?_
  have h := h _ rfl
  refine x_putI (tk K_X11_keep 11 rfl) f_X11_288 rfl (Or.inl rfl) (RfS.o hS) ?_
  refine x_aload_n (tk K_X11_keep 12 rfl) rfl rfl ?_
  refine x_dup (tk K_X11_keep 13 rfl) rfl ?_
  refine x_getI (tk K_X11_keep 14 rfl) f_X11_282 rfl (RfS.o hS) ?_
  refine x_iload_n (tk K_X11_keep 15 rfl) rfl rfl ?_
  refine x_iconst (tk K_X11_keep 16 rfl) ic_m1 ?_
  refine x_ixor (tk K_X11_keep 17 rfl) ?_
  refine x_iand (tk K_X11_keep 18 rfl) ?_
  have h := h _ rfl
  refine x_putI (tk K_X11_keep 19 rfl) f_X11_282 rfl (Or.inl rfl) (RfS.o hS) ?_
  refine x_aload_n (tk K_X11_keep 20 rfl) rfl rfl ?_
  refine x_dup (tk K_X11_keep 21 rfl) rfl ?_
  refine x_getI (tk K_X11_keep 22 rfl) f_X11_285 rfl (RfS.o hS) ?_
  refine x_iconst (tk K_X11_keep 23 rfl) ic_1 ?_
  refine x_isub (tk K_X11_keep 24 rfl) ?_
  have h := h _ rfl
  refine x_putI (tk K_X11_keep 25 rfl) f_X11_285 rfl (Or.inl rfl) (RfS.o hS) ?_
  exact x_return (tk K_X11_keep 26 rfl) rfl h

theorem e_X11_keep {X : Cx} {d kc ns : Nat} {M : Mem} {Q : Option AV → Mem → Prop} {a1 : Int32} (h : WA X d kc ns m_X11_keep 0 [some (vR 75), some (vI a1)] [] M Q) : Cl X d kc ns m_X11_keep [vR 75, vI a1] M Q := Cl.intro (k := 0) (by decide) rfl rfl h

-- TwoPencilsModel.keepAll(I)V
theorem b_X11_keepAll_0 {X : Cx} {d kc ns : Nat} {M : Mem} {Q : Option AV → Mem → Prop} {l1 : Int32} (hS : RfS M)
    (h : ∀ x1 : Int32, x1 = (mI M 75 26) → ∀ x2 : Int32, x2 = (mI M 75 27) → WA X d kc ns m_X11_keepAll 13 [some (vR 75), some (vI l1), some (vI x1), some (vI x2), some (vI (nI 0))] [] M Q) :
    WA X d kc ns m_X11_keepAll 0 [some (vR 75), some (vI l1), none, none, none] [] M Q := by
  refine x_aload_n (tk K_X11_keepAll 0 rfl) rfl rfl ?_
  refine x_getI (tk K_X11_keepAll 1 rfl) f_X11_282 rfl (RfS.o hS) ?_
  have h := h _ rfl
  refine x_istore_n (L' := [some (vR _), some (vI _), some (vI _), none, none]) (tk K_X11_keepAll 2 rfl) rfl rfl (Nat.le_of_ble_eq_true rfl) rfl ?_
  refine x_aload_n (tk K_X11_keepAll 3 rfl) rfl rfl ?_
  refine x_getI (tk K_X11_keepAll 4 rfl) f_X11_285 rfl (RfS.o hS) ?_
  have h := h _ rfl
  refine x_istore_n (L' := [some (vR _), some (vI _), some (vI _), some (vI _), none]) (tk K_X11_keepAll 5 rfl) rfl rfl (Nat.le_of_ble_eq_true rfl) rfl ?_
  refine x_iconst (tk K_X11_keepAll 6 rfl) ic_0 ?_
  refine x_istore (L' := [some (vR _), some (vI _), some (vI _), some (vI _), some (vI _)]) (tk K_X11_keepAll 7 rfl) rfl (Nat.le_of_ble_eq_true rfl) rfl ?_
  exact h

theorem b_X11_keepAll_13 {X : Cx} {d kc ns : Nat} {M : Mem} {Q : Option AV → Mem → Prop} {l1 : Int32} {l2 : Int32} {l3 : Int32} {l4 : Int32} (hS : RfS M) (hd : 1 ≤ d)
    (h : ((l3 ≤ l4 → ∀ M1 : Mem, M1 = sI M 75 29 (nI 8) → Q none M1) ∧ (¬ l3 ≤ l4 → Cl X (d - 1) 0 0 m_X11_seatOf [vR 75, vI l1, vI l2, vI l4] M (fun r M2 => ∃ x1 : Int32, r = some (vI x1) ∧ Ext M M2 ∧ Cl X (d - 1) 0 0 m_X11_keep [vR 75, vI x1] M2 (fun r M3 => r = none ∧ Ext M2 M3 ∧ WA X d kc ns m_X11_keepAll 13 [some (vR 75), some (vI l1), some (vI l2), some (vI l3), some (vI (l4 + (nI 1)))] [] M3 Q))))) :
    WA X d kc ns m_X11_keepAll 13 [some (vR 75), some (vI l1), some (vI l2), some (vI l3), some (vI l4)] [] M Q := by
  refine x_iload (tk K_X11_keepAll 8 rfl) rfl ?_
  refine x_iload_n (tk K_X11_keepAll 9 rfl) rfl rfl ?_
  refine x_icmp_ge (t := 37) (tk K_X11_keepAll 10 rfl) rfl (fun hc => ?_) (fun hc => ?_)
  · have h := h.1 hc
    refine x_aload_n (tk K_X11_keepAll 20 rfl) rfl rfl ?_
    refine x_bipush (tk K_X11_keepAll 21 rfl) bp_8 ?_
    have h := h _ rfl
    refine x_putI (tk K_X11_keepAll 22 rfl) f_X11_300 rfl (Or.inl rfl) (RfS.o hS) ?_
    exact x_return (tk K_X11_keepAll 23 rfl) rfl h
  · have h := h.2 hc
    refine x_aload_n (tk K_X11_keepAll 11 rfl) rfl rfl ?_
    refine x_aload_n (tk K_X11_keepAll 12 rfl) rfl rfl ?_
    refine x_iload_n (tk K_X11_keepAll 13 rfl) rfl rfl ?_
    refine x_iload_n (tk K_X11_keepAll 14 rfl) rfl rfl ?_
    refine x_iload (tk K_X11_keepAll 15 rfl) rfl ?_
    refine x_callV0 (As := [vI _, vI _, vI _]) (S := [vR _]) (tk K_X11_keepAll 16 rfl) mk_X11_199 mo_X11_seatOf (RfS.o hS) rfl rfl (Nat.le_of_ble_eq_true rfl) hd h (fun r M2 hq => ?_)
    obtain ⟨x1, rfl, hE, h⟩ := hq
    have hT0 := RfS.ext hS hE
    refine x_callV0 (As := [vI _]) (S := []) (tk K_X11_keepAll 17 rfl) mk_X11_303 mo_X11_keep (RfS.o hT0) rfl rfl (Nat.le_of_ble_eq_true rfl) hd h (fun r M3 hq => ?_)
    obtain ⟨rfl, hE, h⟩ := hq
    have hT1 := RfS.ext hT0 hE
    refine x_iincW (L' := [some (vR _), some (vI _), some (vI _), some (vI _), some (vI _)]) (tk K_X11_keepAll 18 rfl) rfl ic_1 rfl (Nat.le_of_ble_eq_true rfl) rfl ?_
    refine x_goto (t := 13) (tk K_X11_keepAll 19 rfl) rfl ?_
    exact h

theorem e_X11_keepAll {X : Cx} {d kc ns : Nat} {M : Mem} {Q : Option AV → Mem → Prop} {a1 : Int32} (h : WA X d kc ns m_X11_keepAll 0 [some (vR 75), some (vI a1), none, none, none] [] M Q) : Cl X d kc ns m_X11_keepAll [vR 75, vI a1] M Q := Cl.intro (k := 3) (by decide) rfl rfl h

-- TwoPencilsModel.isAlone()Z
theorem b_X11_isAlone_0 {X : Cx} {d kc ns : Nat} {M : Mem} {Q : Option AV → Mem → Prop} (hS : RfS M) (hd : 1 ≤ d)
    (h : Cl X (d - 1) 0 0 m_X11_list [vR 75, vI (mI M 75 27), vI (mI M 75 26), vI (mI M 75 27)] M (fun r M1 => ∃ x1 : Int32, r = some (vI x1) ∧ Ext M M1 ∧ ((¬ x1 = (nI 1) → Q (some (vI (nI 0))) M1) ∧ (x1 = (nI 1) → Q (some (vI (nI 1))) M1)))) :
    WA X d kc ns m_X11_isAlone 0 [some (vR 75)] [] M Q := by
  refine x_aload_n (tk K_X11_isAlone 0 rfl) rfl rfl ?_
  refine x_aload_n (tk K_X11_isAlone 1 rfl) rfl rfl ?_
  refine x_getI (tk K_X11_isAlone 2 rfl) f_X11_285 rfl (RfS.o hS) ?_
  refine x_aload_n (tk K_X11_isAlone 3 rfl) rfl rfl ?_
  refine x_getI (tk K_X11_isAlone 4 rfl) f_X11_282 rfl (RfS.o hS) ?_
  refine x_aload_n (tk K_X11_isAlone 5 rfl) rfl rfl ?_
  refine x_getI (tk K_X11_isAlone 6 rfl) f_X11_285 rfl (RfS.o hS) ?_
  refine x_callV0 (As := [vI _, vI _, vI _]) (S := []) (tk K_X11_isAlone 7 rfl) mk_X11_233 mo_X11_list (RfS.o hS) rfl rfl (Nat.le_of_ble_eq_true rfl) hd h (fun r M1 hq => ?_)
  obtain ⟨x1, rfl, hE, h⟩ := hq
  have hT0 := RfS.ext hS hE
  refine x_iconst (tk K_X11_isAlone 8 rfl) ic_1 ?_
  refine x_icmp_ne (t := 24) (tk K_X11_isAlone 9 rfl) rfl (fun hc => ?_) (fun hc => ?_)
  · have h := h.1 hc
    refine x_iconst (tk K_X11_isAlone 12 rfl) ic_0 ?_
    exact x_ireturn (tk K_X11_isAlone 13 rfl) rfl (fitZ (Or.inl rfl)).1 h
  · have h := h.2 hc
    refine x_iconst (tk K_X11_isAlone 10 rfl) ic_1 ?_
    refine x_goto (t := 25) (tk K_X11_isAlone 11 rfl) rfl ?_
    exact x_ireturn (tk K_X11_isAlone 13 rfl) rfl (fitZ (Or.inr rfl)).1 h

theorem e_X11_isAlone {X : Cx} {d kc ns : Nat} {M : Mem} {Q : Option AV → Mem → Prop} (h : WA X d kc ns m_X11_isAlone 0 [some (vR 75)] [] M Q) : Cl X d kc ns m_X11_isAlone [vR 75] M Q := Cl.intro (k := 0) (by decide) rfl rfl h

-- TwoPencilsModel.isLast(I)Z
theorem b_X11_isLast_0 {X : Cx} {d kc ns : Nat} {M : Mem} {Q : Option AV → Mem → Prop} {l1 : Int32} (hS : RfS M) (hd : 1 ≤ d)
    (h : Cl X (d - 1) 0 0 m_X11_list [vR 75, vI (mI M 75 27), vI (mI M 75 26), vI (mI M 75 27)] M (fun r M1 => ∃ x1 : Int32, r = some (vI x1) ∧ Ext M M1 ∧ vp_in ((((nI 8000) * (mI M1 75 27)) + x1) - (nI 1)) 40000 ∧ ((¬ (mI M1 89 (ix ((((nI 8000) * (mI M1 75 27)) + x1) - (nI 1)))) = l1 → Q (some (vI (nI 0))) M1) ∧ ((mI M1 89 (ix ((((nI 8000) * (mI M1 75 27)) + x1) - (nI 1)))) = l1 → Q (some (vI (nI 1))) M1)))) :
    WA X d kc ns m_X11_isLast 0 [some (vR 75), some (vI l1), none] [] M Q := by
  refine x_aload_n (tk K_X11_isLast 0 rfl) rfl rfl ?_
  refine x_aload_n (tk K_X11_isLast 1 rfl) rfl rfl ?_
  refine x_getI (tk K_X11_isLast 2 rfl) f_X11_285 rfl (RfS.o hS) ?_
  refine x_aload_n (tk K_X11_isLast 3 rfl) rfl rfl ?_
  refine x_getI (tk K_X11_isLast 4 rfl) f_X11_282 rfl (RfS.o hS) ?_
  refine x_aload_n (tk K_X11_isLast 5 rfl) rfl rfl ?_
  refine x_getI (tk K_X11_isLast 6 rfl) f_X11_285 rfl (RfS.o hS) ?_
  refine x_callV0 (As := [vI _, vI _, vI _]) (S := []) (tk K_X11_isLast 7 rfl) mk_X11_233 mo_X11_list (RfS.o hS) rfl rfl (Nat.le_of_ble_eq_true rfl) hd h (fun r M1 hq => ?_)
  obtain ⟨x1, rfl, hE, h⟩ := hq
  have hT0 := RfS.ext hS hE
  refine x_istore_n (L' := [some (vR _), some (vI _), some (vI _)]) (tk K_X11_isLast 8 rfl) rfl rfl (Nat.le_of_ble_eq_true rfl) rfl ?_
  refine x_aload_n (tk K_X11_isLast 9 rfl) rfl rfl ?_
  refine x_getRc (tk K_X11_isLast 10 rfl) f_X11_50 rfl (RfS.o hT0) (RfS.r20 hT0) ?_
  refine x_sipush (tk K_X11_isLast 11 rfl) sp_8000 ?_
  refine x_aload_n (tk K_X11_isLast 12 rfl) rfl rfl ?_
  refine x_getI (tk K_X11_isLast 13 rfl) f_X11_285 rfl (RfS.o hT0) ?_
  refine x_imul (tk K_X11_isLast 14 rfl) ?_
  refine x_iload_n (tk K_X11_isLast 15 rfl) rfl rfl ?_
  refine x_iadd (tk K_X11_isLast 16 rfl) ?_
  refine x_iconst (tk K_X11_isLast 17 rfl) ic_1 ?_
  refine x_isub (tk K_X11_isLast 18 rfl) ?_
  have hi := h.1
  have h := h.2
  refine x_iald (tk K_X11_isLast 19 rfl) (RfS.k20 hT0) hi ?_
  refine x_iload_n (tk K_X11_isLast 20 rfl) rfl rfl ?_
  refine x_icmp_ne (t := 42) (tk K_X11_isLast 21 rfl) rfl (fun hc => ?_) (fun hc => ?_)
  · have h := h.1 hc
    refine x_iconst (tk K_X11_isLast 24 rfl) ic_0 ?_
    exact x_ireturn (tk K_X11_isLast 25 rfl) rfl (fitZ (Or.inl rfl)).1 h
  · have h := h.2 hc
    refine x_iconst (tk K_X11_isLast 22 rfl) ic_1 ?_
    refine x_goto (t := 43) (tk K_X11_isLast 23 rfl) rfl ?_
    exact x_ireturn (tk K_X11_isLast 25 rfl) rfl (fitZ (Or.inr rfl)).1 h

theorem e_X11_isLast {X : Cx} {d kc ns : Nat} {M : Mem} {Q : Option AV → Mem → Prop} {a1 : Int32} (h : WA X d kc ns m_X11_isLast 0 [some (vR 75), some (vI a1), none] [] M Q) : Cl X d kc ns m_X11_isLast [vR 75, vI a1] M Q := Cl.intro (k := 1) (by decide) rfl rfl h

-- TwoPencilsModel.mayMove(I)Z
theorem b_X11_mayMove_0 {X : Cx} {d kc ns : Nat} {M : Mem} {Q : Option AV → Mem → Prop} {l1 : Int32} (hS : RfS M) (hd : 1 ≤ d)
    (h : ∀ x1 : Int32, x1 = (mI M 75 29) → (((x1.toInt < 0 ∨ 7 < x1.toInt) → Q (some (vI (nI 0))) M) ∧ (x1.toInt = 0 → WA X d kc ns m_X11_mayMove 52 [some (vR 75), some (vI l1)] [] M Q) ∧ (x1.toInt = 1 → Cl X (d - 1) 0 0 m_X11_in [vI l1, vI (nI 0), vI ((mI M 75 27) - (nI 1))] M (fun r M1 => ∃ x2 : Int32, r = some (vI x2) ∧ Ext M M1 ∧ (isB x2 ∧ Q (some (vI x2)) M1))) ∧ (x1.toInt = 2 → WA X d kc ns m_X11_mayMove 52 [some (vR 75), some (vI l1)] [] M Q) ∧ (x1.toInt = 3 → Cl X (d - 1) 0 0 m_X11_isHalves [vR 75, vI l1, vI (mI M 75 26), vI (mI M 75 27)] M (fun r M2 => ∃ x3 : Int32, r = some (vI x3) ∧ Ext M M2 ∧ (isB x3 ∧ Q (some (vI x3)) M2))) ∧ (x1.toInt = 4 → Cl X (d - 1) 0 0 m_X11_isCut [vR 75, vI l1, vI (mI M 75 26), vI (mI M 75 27)] M (fun r M3 => ∃ x4 : Int32, r = some (vI x4) ∧ Ext M M3 ∧ ((x4 = nI 0 → Q (some (vI (nI 0))) M3) ∧ (¬ x4 = nI 0 → Cl X (d - 1) 0 0 m_X11_joins [vR 75, vI l1] M3 (fun r M4 => ∃ x5 : Int32, r = some (vI x5) ∧ Ext M3 M4 ∧ ((x5 = nI 0 → Q (some (vI (nI 0))) M4) ∧ (¬ x5 = nI 0 → Q (some (vI (nI 1))) M4))))))) ∧ (x1.toInt = 5 → Cl X (d - 1) 0 0 m_X11_isCut [vR 75, vI l1, vI (mI M 75 26), vI (mI M 75 27)] M (fun r M5 => ∃ x6 : Int32, r = some (vI x6) ∧ Ext M M5 ∧ ((x6 = nI 0 → Q (some (vI (nI 0))) M5) ∧ (¬ x6 = nI 0 → Cl X (d - 1) 0 0 m_X11_isLast [vR 75, vI l1] M5 (fun r M6 => ∃ x7 : Int32, r = some (vI x7) ∧ Ext M5 M6 ∧ ((x7 = nI 0 → Q (some (vI (nI 1))) M6) ∧ (¬ x7 = nI 0 → Cl X (d - 1) 0 0 m_X11_list [vR 75, vI (mI M6 75 27), vI (mI M6 75 26), vI (mI M6 75 27)] M6 (fun r M7 => ∃ x8 : Int32, r = some (vI x8) ∧ Ext M6 M7 ∧ ((¬ x8 = (nI 1) → Q (some (vI (nI 0))) M7) ∧ (x8 = (nI 1) → Q (some (vI (nI 1))) M7)))))))))) ∧ (x1.toInt = 6 → Cl X (d - 1) 0 0 m_X11_isCut [vR 75, vI l1, vI (mI M 75 26), vI (mI M 75 27)] M (fun r M8 => ∃ x9 : Int32, r = some (vI x9) ∧ Ext M M8 ∧ ((x9 = nI 0 → Q (some (vI (nI 0))) M8) ∧ (¬ x9 = nI 0 → ((l1 ≤ (mI M8 75 30) → Q (some (vI (nI 0))) M8) ∧ (¬ l1 ≤ (mI M8 75 30) → Q (some (vI (nI 1))) M8)))))) ∧ (x1.toInt = 7 → Cl X (d - 1) 0 0 m_X11_in [vI l1, vI (nI 0), vI (nI 1)] M (fun r M9 => ∃ x10 : Int32, r = some (vI x10) ∧ Ext M M9 ∧ (isB x10 ∧ Q (some (vI x10)) M9))))) :
    WA X d kc ns m_X11_mayMove 0 [some (vR 75), some (vI l1)] [] M Q := by
  refine x_aload_n (tk K_X11_mayMove 0 rfl) rfl rfl ?_
  refine x_getI (tk K_X11_mayMove 1 rfl) f_X11_300 rfl (RfS.o hS) ?_
  have h := h _ rfl
  refine x_table (td := 209) (tk K_X11_mayMove 2 rfl) rfl (fun hc => ?_) (fun k hk hk2 => ?_)
  · have h := h.1 hc
    refine x_iconst (tk K_X11_mayMove 90 rfl) ic_0 ?_
    exact x_ireturn (tk K_X11_mayMove 91 rfl) rfl (fitZ (Or.inl rfl)).1 h
  · rcases (show k = 0 ∨ k = 1 ∨ k = 2 ∨ k = 3 ∨ k = 4 ∨ k = 5 ∨ k = 6 ∨ k = 7 by omega) with rfl | rfl | rfl | rfl | rfl | rfl | rfl | rfl
    · refine ⟨48, 52, rfl, rfl, ?_⟩
      have h := h.2.1 (by omega)
      exact h
    · refine ⟨62, 66, rfl, rfl, ?_⟩
      have h := h.2.2.1 (by omega)
      refine x_iload_n (tk K_X11_mayMove 11 rfl) rfl rfl ?_
      refine x_iconst (tk K_X11_mayMove 12 rfl) ic_0 ?_
      refine x_aload_n (tk K_X11_mayMove 13 rfl) rfl rfl ?_
      refine x_getI (tk K_X11_mayMove 14 rfl) f_X11_285 rfl (RfS.o hS) ?_
      refine x_iconst (tk K_X11_mayMove 15 rfl) ic_1 ?_
      refine x_isub (tk K_X11_mayMove 16 rfl) ?_
      refine x_callS0 (As := [vI _, vI _, vI _]) (S := []) (tk K_X11_mayMove 17 rfl) mk_X11_125 mo_X11_in rfl rfl (Nat.le_of_ble_eq_true rfl) hd h (fun r M1 hq => ?_)
      obtain ⟨x2, rfl, hE, h⟩ := hq
      have hT0 := RfS.ext hS hE
      exact x_ireturn (tk K_X11_mayMove 18 rfl) rfl (fitZ h.1).1 h.2
    · refine ⟨48, 52, rfl, rfl, ?_⟩
      have h := h.2.2.2.1 (by omega)
      exact h
    · refine ⟨74, 78, rfl, rfl, ?_⟩
      have h := h.2.2.2.2.1 (by omega)
      refine x_aload_n (tk K_X11_mayMove 19 rfl) rfl rfl ?_
      refine x_iload_n (tk K_X11_mayMove 20 rfl) rfl rfl ?_
      refine x_aload_n (tk K_X11_mayMove 21 rfl) rfl rfl ?_
      refine x_getI (tk K_X11_mayMove 22 rfl) f_X11_282 rfl (RfS.o hS) ?_
      refine x_aload_n (tk K_X11_mayMove 23 rfl) rfl rfl ?_
      refine x_getI (tk K_X11_mayMove 24 rfl) f_X11_285 rfl (RfS.o hS) ?_
      refine x_callV0 (As := [vI _, vI _, vI _]) (S := []) (tk K_X11_mayMove 25 rfl) mk_X11_309 mo_X11_isHalves (RfS.o hS) rfl rfl (Nat.le_of_ble_eq_true rfl) hd h (fun r M2 hq => ?_)
      obtain ⟨x3, rfl, hE, h⟩ := hq
      have hT1 := RfS.ext hS hE
      exact x_ireturn (tk K_X11_mayMove 26 rfl) rfl (fitZ h.1).1 h.2
    · refine ⟨88, 92, rfl, rfl, ?_⟩
      have h := h.2.2.2.2.2.1 (by omega)
      refine x_aload_n (tk K_X11_mayMove 27 rfl) rfl rfl ?_
      refine x_iload_n (tk K_X11_mayMove 28 rfl) rfl rfl ?_
      refine x_aload_n (tk K_X11_mayMove 29 rfl) rfl rfl ?_
      refine x_getI (tk K_X11_mayMove 30 rfl) f_X11_282 rfl (RfS.o hS) ?_
      refine x_aload_n (tk K_X11_mayMove 31 rfl) rfl rfl ?_
      refine x_getI (tk K_X11_mayMove 32 rfl) f_X11_285 rfl (RfS.o hS) ?_
      refine x_callV0 (As := [vI _, vI _, vI _]) (S := []) (tk K_X11_mayMove 33 rfl) mk_X11_306 mo_X11_isCut (RfS.o hS) rfl rfl (Nat.le_of_ble_eq_true rfl) hd h (fun r M3 hq => ?_)
      obtain ⟨x4, rfl, hE, h⟩ := hq
      have hT2 := RfS.ext hS hE
      refine x_if_eq (t := 120) (tk K_X11_mayMove 34 rfl) rfl (fun hc => ?_) (fun hc => ?_)
      · have h := h.1 hc
        refine x_iconst (tk K_X11_mayMove 41 rfl) ic_0 ?_
        exact x_ireturn (tk K_X11_mayMove 42 rfl) rfl (fitZ (Or.inl rfl)).1 h
      · have h := h.2 hc
        refine x_aload_n (tk K_X11_mayMove 35 rfl) rfl rfl ?_
        refine x_iload_n (tk K_X11_mayMove 36 rfl) rfl rfl ?_
        refine x_callV0 (As := [vI _]) (S := []) (tk K_X11_mayMove 37 rfl) mk_X11_312 mo_X11_joins (RfS.o hT2) rfl rfl (Nat.le_of_ble_eq_true rfl) hd h (fun r M4 hq => ?_)
        obtain ⟨x5, rfl, hE, h⟩ := hq
        have hT3 := RfS.ext hT2 hE
        refine x_if_eq (t := 120) (tk K_X11_mayMove 38 rfl) rfl (fun hc => ?_) (fun hc => ?_)
        · have h := h.1 hc
          refine x_iconst (tk K_X11_mayMove 41 rfl) ic_0 ?_
          exact x_ireturn (tk K_X11_mayMove 42 rfl) rfl (fitZ (Or.inl rfl)).1 h
        · have h := h.2 hc
          refine x_iconst (tk K_X11_mayMove 39 rfl) ic_1 ?_
          refine x_goto (t := 121) (tk K_X11_mayMove 40 rfl) rfl ?_
          exact x_ireturn (tk K_X11_mayMove 42 rfl) rfl (fitZ (Or.inr rfl)).1 h
    · refine ⟨118, 122, rfl, rfl, ?_⟩
      have h := h.2.2.2.2.2.2.1 (by omega)
      refine x_aload_n (tk K_X11_mayMove 43 rfl) rfl rfl ?_
      refine x_iload_n (tk K_X11_mayMove 44 rfl) rfl rfl ?_
      refine x_aload_n (tk K_X11_mayMove 45 rfl) rfl rfl ?_
      refine x_getI (tk K_X11_mayMove 46 rfl) f_X11_282 rfl (RfS.o hS) ?_
      refine x_aload_n (tk K_X11_mayMove 47 rfl) rfl rfl ?_
      refine x_getI (tk K_X11_mayMove 48 rfl) f_X11_285 rfl (RfS.o hS) ?_
      refine x_callV0 (As := [vI _, vI _, vI _]) (S := []) (tk K_X11_mayMove 49 rfl) mk_X11_306 mo_X11_isCut (RfS.o hS) rfl rfl (Nat.le_of_ble_eq_true rfl) hd h (fun r M5 hq => ?_)
      obtain ⟨x6, rfl, hE, h⟩ := hq
      have hT4 := RfS.ext hS hE
      refine x_if_eq (t := 170) (tk K_X11_mayMove 50 rfl) rfl (fun hc => ?_) (fun hc => ?_)
      · have h := h.1 hc
        refine x_iconst (tk K_X11_mayMove 67 rfl) ic_0 ?_
        exact x_ireturn (tk K_X11_mayMove 68 rfl) rfl (fitZ (Or.inl rfl)).1 h
      · have h := h.2 hc
        refine x_aload_n (tk K_X11_mayMove 51 rfl) rfl rfl ?_
        refine x_iload_n (tk K_X11_mayMove 52 rfl) rfl rfl ?_
        refine x_callV0 (As := [vI _]) (S := []) (tk K_X11_mayMove 53 rfl) mk_X11_315 mo_X11_isLast (RfS.o hT4) rfl rfl (Nat.le_of_ble_eq_true rfl) hd h (fun r M6 hq => ?_)
        obtain ⟨x7, rfl, hE, h⟩ := hq
        have hT5 := RfS.ext hT4 hE
        refine x_if_eq (t := 166) (tk K_X11_mayMove 54 rfl) rfl (fun hc => ?_) (fun hc => ?_)
        · have h := h.1 hc
          refine x_iconst (tk K_X11_mayMove 65 rfl) ic_1 ?_
          refine x_goto (t := 171) (tk K_X11_mayMove 66 rfl) rfl ?_
          exact x_ireturn (tk K_X11_mayMove 68 rfl) rfl (fitZ (Or.inr rfl)).1 h
        · have h := h.2 hc
          refine x_aload_n (tk K_X11_mayMove 55 rfl) rfl rfl ?_
          refine x_aload_n (tk K_X11_mayMove 56 rfl) rfl rfl ?_
          refine x_getI (tk K_X11_mayMove 57 rfl) f_X11_285 rfl (RfS.o hT5) ?_
          refine x_aload_n (tk K_X11_mayMove 58 rfl) rfl rfl ?_
          refine x_getI (tk K_X11_mayMove 59 rfl) f_X11_282 rfl (RfS.o hT5) ?_
          refine x_aload_n (tk K_X11_mayMove 60 rfl) rfl rfl ?_
          refine x_getI (tk K_X11_mayMove 61 rfl) f_X11_285 rfl (RfS.o hT5) ?_
          refine x_callV0 (As := [vI _, vI _, vI _]) (S := []) (tk K_X11_mayMove 62 rfl) mk_X11_233 mo_X11_list (RfS.o hT5) rfl rfl (Nat.le_of_ble_eq_true rfl) hd h (fun r M7 hq => ?_)
          obtain ⟨x8, rfl, hE, h⟩ := hq
          have hT6 := RfS.ext hT5 hE
          refine x_iconst (tk K_X11_mayMove 63 rfl) ic_1 ?_
          refine x_icmp_ne (t := 170) (tk K_X11_mayMove 64 rfl) rfl (fun hc => ?_) (fun hc => ?_)
          · have h := h.1 hc
            refine x_iconst (tk K_X11_mayMove 67 rfl) ic_0 ?_
            exact x_ireturn (tk K_X11_mayMove 68 rfl) rfl (fitZ (Or.inl rfl)).1 h
          · have h := h.2 hc
            refine x_iconst (tk K_X11_mayMove 65 rfl) ic_1 ?_
            refine x_goto (t := 171) (tk K_X11_mayMove 66 rfl) rfl ?_
            exact x_ireturn (tk K_X11_mayMove 68 rfl) rfl (fitZ (Or.inr rfl)).1 h
    · refine ⟨168, 172, rfl, rfl, ?_⟩
      have h := h.2.2.2.2.2.2.2.1 (by omega)
      refine x_aload_n (tk K_X11_mayMove 69 rfl) rfl rfl ?_
      refine x_iload_n (tk K_X11_mayMove 70 rfl) rfl rfl ?_
      refine x_aload_n (tk K_X11_mayMove 71 rfl) rfl rfl ?_
      refine x_getI (tk K_X11_mayMove 72 rfl) f_X11_282 rfl (RfS.o hS) ?_
      refine x_aload_n (tk K_X11_mayMove 73 rfl) rfl rfl ?_
      refine x_getI (tk K_X11_mayMove 74 rfl) f_X11_285 rfl (RfS.o hS) ?_
      refine x_callV0 (As := [vI _, vI _, vI _]) (S := []) (tk K_X11_mayMove 75 rfl) mk_X11_306 mo_X11_isCut (RfS.o hS) rfl rfl (Nat.le_of_ble_eq_true rfl) hd h (fun r M8 hq => ?_)
      obtain ⟨x9, rfl, hE, h⟩ := hq
      have hT7 := RfS.ext hS hE
      refine x_if_eq (t := 200) (tk K_X11_mayMove 76 rfl) rfl (fun hc => ?_) (fun hc => ?_)
      · have h := h.1 hc
        refine x_iconst (tk K_X11_mayMove 83 rfl) ic_0 ?_
        exact x_ireturn (tk K_X11_mayMove 84 rfl) rfl (fitZ (Or.inl rfl)).1 h
      · have h := h.2 hc
        refine x_iload_n (tk K_X11_mayMove 77 rfl) rfl rfl ?_
        refine x_aload_n (tk K_X11_mayMove 78 rfl) rfl rfl ?_
        refine x_getI (tk K_X11_mayMove 79 rfl) f_X11_318 rfl (RfS.o hT7) ?_
        refine x_icmp_le (t := 200) (tk K_X11_mayMove 80 rfl) rfl (fun hc => ?_) (fun hc => ?_)
        · have h := h.1 hc
          refine x_iconst (tk K_X11_mayMove 83 rfl) ic_0 ?_
          exact x_ireturn (tk K_X11_mayMove 84 rfl) rfl (fitZ (Or.inl rfl)).1 h
        · have h := h.2 hc
          refine x_iconst (tk K_X11_mayMove 81 rfl) ic_1 ?_
          refine x_goto (t := 201) (tk K_X11_mayMove 82 rfl) rfl ?_
          exact x_ireturn (tk K_X11_mayMove 84 rfl) rfl (fitZ (Or.inr rfl)).1 h
    · refine ⟨198, 202, rfl, rfl, ?_⟩
      have h := h.2.2.2.2.2.2.2.2 (by omega)
      refine x_iload_n (tk K_X11_mayMove 85 rfl) rfl rfl ?_
      refine x_iconst (tk K_X11_mayMove 86 rfl) ic_0 ?_
      refine x_iconst (tk K_X11_mayMove 87 rfl) ic_1 ?_
      refine x_callS0 (As := [vI _, vI _, vI _]) (S := []) (tk K_X11_mayMove 88 rfl) mk_X11_125 mo_X11_in rfl rfl (Nat.le_of_ble_eq_true rfl) hd h (fun r M9 hq => ?_)
      obtain ⟨x10, rfl, hE, h⟩ := hq
      have hT8 := RfS.ext hS hE
      exact x_ireturn (tk K_X11_mayMove 89 rfl) rfl (fitZ h.1).1 h.2

theorem b_X11_mayMove_52 {X : Cx} {d kc ns : Nat} {M : Mem} {Q : Option AV → Mem → Prop} {l1 : Int32} (hS : RfS M) (hd : 1 ≤ d)
    (h : Cl X (d - 1) 0 0 m_X11_isCut [vR 75, vI l1, vI (mI M 75 26), vI (mI M 75 27)] M (fun r M1 => ∃ x1 : Int32, r = some (vI x1) ∧ Ext M M1 ∧ (isB x1 ∧ Q (some (vI x1)) M1))) :
    WA X d kc ns m_X11_mayMove 52 [some (vR 75), some (vI l1)] [] M Q := by
  refine x_aload_n (tk K_X11_mayMove 3 rfl) rfl rfl ?_
  refine x_iload_n (tk K_X11_mayMove 4 rfl) rfl rfl ?_
  refine x_aload_n (tk K_X11_mayMove 5 rfl) rfl rfl ?_
  refine x_getI (tk K_X11_mayMove 6 rfl) f_X11_282 rfl (RfS.o hS) ?_
  refine x_aload_n (tk K_X11_mayMove 7 rfl) rfl rfl ?_
  refine x_getI (tk K_X11_mayMove 8 rfl) f_X11_285 rfl (RfS.o hS) ?_
  refine x_callV0 (As := [vI _, vI _, vI _]) (S := []) (tk K_X11_mayMove 9 rfl) mk_X11_306 mo_X11_isCut (RfS.o hS) rfl rfl (Nat.le_of_ble_eq_true rfl) hd h (fun r M1 hq => ?_)
  obtain ⟨x1, rfl, hE, h⟩ := hq
  have hT0 := RfS.ext hS hE
  exact x_ireturn (tk K_X11_mayMove 10 rfl) rfl (fitZ h.1).1 h.2

theorem e_X11_mayMove {X : Cx} {d kc ns : Nat} {M : Mem} {Q : Option AV → Mem → Prop} {a1 : Int32} (h : WA X d kc ns m_X11_mayMove 0 [some (vR 75), some (vI a1)] [] M Q) : Cl X d kc ns m_X11_mayMove [vR 75, vI a1] M Q := Cl.intro (k := 0) (by decide) rfl rfl h

-- TwoPencilsModel.makeMove(II)V
theorem b_X11_makeMove_0 {X : Cx} {d kc ns : Nat} {M : Mem} {Q : Option AV → Mem → Prop} {l1 : Int32} {l2 : Int32} (hS : RfS M) (hd : 1 ≤ d)
    (h : ∀ x1 : Int32, x1 = (mI M 75 29) → (((x1.toInt < 0 ∨ 7 < x1.toInt) → WA X d kc ns m_X11_makeMove 217 [some (vR 75), some (vI l1), none] [] M Q) ∧ (x1.toInt = 0 → ∀ M1 : Mem, M1 = sI M 75 30 l1 → ∀ M2 : Mem, M2 = sI M1 75 29 (nI 1) → Q none M2) ∧ (x1.toInt = 1 → Cl X (d - 1) 0 0 m_X11_seatOf [vR 75, vI (mI M 75 30), vI (mI M 75 26), vI l1] M (fun r M3 => ∃ x2 : Int32, r = some (vI x2) ∧ Ext M M3 ∧ Cl X (d - 1) 0 0 m_X11_keep [vR 75, vI x2] M3 (fun r M4 => r = none ∧ Ext M3 M4 ∧ vp_in (mI M4 75 24) 9 ∧ ¬ (mI M4 84 (ix (mI M4 75 24))) = nI 0 ∧ ∀ M5 : Mem, M5 = sI M4 75 28 (remI ((mI M4 75 28) + (nI 1)) (mI M4 84 (ix (mI M4 75 24)))) → ((¬ (mI M5 75 27) = nI 0 → Cl X (d - 1) 0 0 m_X11_startRound [vR 75] M5 (fun r M6 => r = none ∧ Ext M5 M6 ∧ Q none M6)) ∧ ((mI M5 75 27) = nI 0 → ∀ M7 : Mem, M7 = sI M5 75 29 (nI 8) → Q none M7))))) ∧ (x1.toInt = 2 → WA X d kc ns m_X11_makeMove 217 [some (vR 75), some (vI l1), none] [] M Q) ∧ (x1.toInt = 3 → ∀ M8 : Mem, M8 = sI M 75 30 l1 → ∀ M9 : Mem, M9 = sI M8 75 29 (nI 4) → Q none M9) ∧ (x1.toInt = 4 → WA X d kc ns m_X11_makeMove 217 [some (vR 75), some (vI l1), none] [] M Q) ∧ (x1.toInt = 5 → ∀ M10 : Mem, M10 = sI M 75 30 l1 → ((¬ l2 = (-1) → ((¬ l2 = (nI 8) → WA X d kc ns m_X11_makeMove 172 [some (vR 75), none, none] [] M10 Q) ∧ (l2 = (nI 8) → WA X d kc ns m_X11_makeMove 164 [some (vR 75), some (vI l1), none] [] M10 Q))) ∧ (l2 = (-1) → Cl X (d - 1) 0 0 m_X11_isAlone [vR 75] M10 (fun r M11 => ∃ x3 : Int32, r = some (vI x3) ∧ Ext M10 M11 ∧ ((x3 = nI 0 → WA X d kc ns m_X11_makeMove 172 [some (vR 75), none, none] [] M11 Q) ∧ (¬ x3 = nI 0 → WA X d kc ns m_X11_makeMove 164 [some (vR 75), some (vI l1), none] [] M11 Q)))))) ∧ (x1.toInt = 6 → ∀ M12 : Mem, M12 = sI M 75 31 l1 → ∀ M13 : Mem, M13 = sI M12 75 29 (nI 7) → Q none M13) ∧ (x1.toInt = 7 → ((¬ l1 = nI 0 → WA X d kc ns m_X11_makeMove 211 [some (vR 75), none, none] [vI (mI M 75 31), vR 75] M Q) ∧ (l1 = nI 0 → WA X d kc ns m_X11_makeMove 211 [some (vR 75), none, none] [vI (mI M 75 30), vR 75] M Q))))) :
    WA X d kc ns m_X11_makeMove 0 [some (vR 75), some (vI l1), some (vI l2)] [] M Q := by
  refine x_aload_n (tk K_X11_makeMove 0 rfl) rfl rfl ?_
  refine x_getI (tk K_X11_makeMove 1 rfl) f_X11_300 rfl (RfS.o hS) ?_
  have h := h _ rfl
  refine x_table (td := 217) (tk K_X11_makeMove 2 rfl) rfl (fun hc => ?_) (fun k hk hk2 => ?_)
  · have h := h.1 hc
    refine x_msk [true, true, false] ?_
    exact h
  · rcases (show k = 0 ∨ k = 1 ∨ k = 2 ∨ k = 3 ∨ k = 4 ∨ k = 5 ∨ k = 6 ∨ k = 7 by omega) with rfl | rfl | rfl | rfl | rfl | rfl | rfl | rfl
    · refine ⟨48, 52, rfl, rfl, ?_⟩
      have h := h.2.1 (by omega)
      refine x_aload_n (tk K_X11_makeMove 3 rfl) rfl rfl ?_
      refine x_iload_n (tk K_X11_makeMove 4 rfl) rfl rfl ?_
      have h := h _ rfl
      refine x_putI (tk K_X11_makeMove 5 rfl) f_X11_318 rfl (Or.inl rfl) (RfS.o hS) ?_
      refine x_aload_n (tk K_X11_makeMove 6 rfl) rfl rfl ?_
      refine x_iconst (tk K_X11_makeMove 7 rfl) ic_1 ?_
      have h := h _ rfl
      refine x_putI (tk K_X11_makeMove 8 rfl) f_X11_300 rfl (Or.inl rfl) (RfS.o hS) ?_
      refine x_goto (t := 222) (tk K_X11_makeMove 9 rfl) rfl ?_
      exact x_return (tk K_X11_makeMove 89 rfl) rfl h
    · refine ⟨61, 65, rfl, rfl, ?_⟩
      have h := h.2.2.1 (by omega)
      refine x_aload_n (tk K_X11_makeMove 10 rfl) rfl rfl ?_
      refine x_aload_n (tk K_X11_makeMove 11 rfl) rfl rfl ?_
      refine x_aload_n (tk K_X11_makeMove 12 rfl) rfl rfl ?_
      refine x_getI (tk K_X11_makeMove 13 rfl) f_X11_318 rfl (RfS.o hS) ?_
      refine x_aload_n (tk K_X11_makeMove 14 rfl) rfl rfl ?_
      refine x_getI (tk K_X11_makeMove 15 rfl) f_X11_282 rfl (RfS.o hS) ?_
      refine x_iload_n (tk K_X11_makeMove 16 rfl) rfl rfl ?_
      refine x_callV0 (As := [vI _, vI _, vI _]) (S := [vR _]) (tk K_X11_makeMove 17 rfl) mk_X11_199 mo_X11_seatOf (RfS.o hS) rfl rfl (Nat.le_of_ble_eq_true rfl) hd h (fun r M3 hq => ?_)
      obtain ⟨x2, rfl, hE, h⟩ := hq
      have hT0 := RfS.ext hS hE
      refine x_callV0 (As := [vI _]) (S := []) (tk K_X11_makeMove 18 rfl) mk_X11_303 mo_X11_keep (RfS.o hT0) rfl rfl (Nat.le_of_ble_eq_true rfl) hd h (fun r M4 hq => ?_)
      obtain ⟨rfl, hE, h⟩ := hq
      have hT1 := RfS.ext hT0 hE
      refine x_aload_n (tk K_X11_makeMove 19 rfl) rfl rfl ?_
      refine x_aload_n (tk K_X11_makeMove 20 rfl) rfl rfl ?_
      refine x_getI (tk K_X11_makeMove 21 rfl) f_X11_276 rfl (RfS.o hT1) ?_
      refine x_iconst (tk K_X11_makeMove 22 rfl) ic_1 ?_
      refine x_iadd (tk K_X11_makeMove 23 rfl) ?_
      refine x_aload_n (tk K_X11_makeMove 24 rfl) rfl rfl ?_
      refine x_getRc (tk K_X11_makeMove 25 rfl) f_X11_34 rfl (RfS.o hT1) (RfS.r13 hT1) ?_
      refine x_aload_n (tk K_X11_makeMove 26 rfl) rfl rfl ?_
      refine x_getI (tk K_X11_makeMove 27 rfl) f_X11_273 rfl (RfS.o hT1) ?_
      have hi := h.1
      have h := h.2
      refine x_iald (tk K_X11_makeMove 28 rfl) (RfS.k13 hT1) hi ?_
      refine x_iremR (tk K_X11_makeMove 29 rfl) h.1 ?_
      have h := h.2
      have h := h _ rfl
      refine x_putI (tk K_X11_makeMove 30 rfl) f_X11_276 rfl (Or.inl rfl) (RfS.o hT1) ?_
      refine x_aload_n (tk K_X11_makeMove 31 rfl) rfl rfl ?_
      refine x_getI (tk K_X11_makeMove 32 rfl) f_X11_285 rfl (RfS.o hT1) ?_
      refine x_if_ne (t := 118) (tk K_X11_makeMove 33 rfl) rfl (fun hc => ?_) (fun hc => ?_)
      · have h := h.1 hc
        refine x_aload_n (tk K_X11_makeMove 38 rfl) rfl rfl ?_
        refine x_callV0 (As := []) (S := []) (tk K_X11_makeMove 39 rfl) mk_X11_291 mo_X11_startRound (RfS.o hT1) rfl rfl (Nat.le_of_ble_eq_true rfl) hd h (fun r M6 hq => ?_)
        obtain ⟨rfl, hE, h⟩ := hq
        have hT2 := RfS.ext hT1 hE
        have hT3 := hE.1 _ _ _ (RfS.k13 hT1)
        refine x_goto (t := 222) (tk K_X11_makeMove 40 rfl) rfl ?_
        exact x_return (tk K_X11_makeMove 89 rfl) rfl h
      · have h := h.2 hc
        refine x_aload_n (tk K_X11_makeMove 34 rfl) rfl rfl ?_
        refine x_bipush (tk K_X11_makeMove 35 rfl) bp_8 ?_
        have h := h _ rfl
        refine x_putI (tk K_X11_makeMove 36 rfl) f_X11_300 rfl (Or.inl rfl) (RfS.o hT1) ?_
        refine x_goto (t := 222) (tk K_X11_makeMove 37 rfl) rfl ?_
        exact x_return (tk K_X11_makeMove 89 rfl) rfl h
    · refine ⟨213, 217, rfl, rfl, ?_⟩
      have h := h.2.2.2.1 (by omega)
      refine x_msk [true, true, false] ?_
      exact h
    · refine ⟨121, 125, rfl, rfl, ?_⟩
      have h := h.2.2.2.2.1 (by omega)
      refine x_aload_n (tk K_X11_makeMove 41 rfl) rfl rfl ?_
      refine x_iload_n (tk K_X11_makeMove 42 rfl) rfl rfl ?_
      have h := h _ rfl
      refine x_putI (tk K_X11_makeMove 43 rfl) f_X11_318 rfl (Or.inl rfl) (RfS.o hS) ?_
      refine x_aload_n (tk K_X11_makeMove 44 rfl) rfl rfl ?_
      refine x_iconst (tk K_X11_makeMove 45 rfl) ic_4 ?_
      have h := h _ rfl
      refine x_putI (tk K_X11_makeMove 46 rfl) f_X11_300 rfl (Or.inl rfl) (RfS.o hS) ?_
      refine x_goto (t := 222) (tk K_X11_makeMove 47 rfl) rfl ?_
      exact x_return (tk K_X11_makeMove 89 rfl) rfl h
    · refine ⟨213, 217, rfl, rfl, ?_⟩
      have h := h.2.2.2.2.2.1 (by omega)
      refine x_msk [true, true, false] ?_
      exact h
    · refine ⟨134, 138, rfl, rfl, ?_⟩
      have h := h.2.2.2.2.2.2.1 (by omega)
      refine x_aload_n (tk K_X11_makeMove 48 rfl) rfl rfl ?_
      refine x_iload_n (tk K_X11_makeMove 49 rfl) rfl rfl ?_
      have h := h _ rfl
      refine x_putI (tk K_X11_makeMove 50 rfl) f_X11_318 rfl (Or.inl rfl) (RfS.o hS) ?_
      refine x_iload_n (tk K_X11_makeMove 51 rfl) rfl rfl ?_
      refine x_iconst (tk K_X11_makeMove 52 rfl) ic_m1 ?_
      refine x_icmp_ne (t := 158) (tk K_X11_makeMove 53 rfl) rfl (fun hc => ?_) (fun hc => ?_)
      · have h := h.1 hc
        refine x_iload_n (tk K_X11_makeMove 58 rfl) rfl rfl ?_
        refine x_bipush (tk K_X11_makeMove 59 rfl) bp_8 ?_
        refine x_icmp_ne (t := 172) (tk K_X11_makeMove 60 rfl) rfl (fun hc => ?_) (fun hc => ?_)
        · have h := h.1 hc
          refine x_msk [true, false, false] ?_
          exact h
        · have h := h.2 hc
          refine x_msk [true, true, false] ?_
          exact h
      · have h := h.2 hc
        refine x_aload_n (tk K_X11_makeMove 54 rfl) rfl rfl ?_
        refine x_callV0 (As := []) (S := []) (tk K_X11_makeMove 55 rfl) mk_X11_321 mo_X11_isAlone (RfS.o hS) rfl rfl (Nat.le_of_ble_eq_true rfl) hd h (fun r M11 hq => ?_)
        obtain ⟨x3, rfl, hE, h⟩ := hq
        have hT4 := RfS.ext hS hE
        refine x_if_eq (t := 172) (tk K_X11_makeMove 56 rfl) rfl (fun hc => ?_) (fun hc => ?_)
        · have h := h.1 hc
          refine x_msk [true, false, false] ?_
          exact h
        · have h := h.2 hc
          refine x_goto (t := 164) (tk K_X11_makeMove 57 rfl) rfl ?_
          refine x_msk [true, true, false] ?_
          exact h
    · refine ⟨177, 181, rfl, rfl, ?_⟩
      have h := h.2.2.2.2.2.2.2.1 (by omega)
      refine x_aload_n (tk K_X11_makeMove 69 rfl) rfl rfl ?_
      refine x_iload_n (tk K_X11_makeMove 70 rfl) rfl rfl ?_
      have h := h _ rfl
      refine x_putI (tk K_X11_makeMove 71 rfl) f_X11_328 rfl (Or.inl rfl) (RfS.o hS) ?_
      refine x_aload_n (tk K_X11_makeMove 72 rfl) rfl rfl ?_
      refine x_bipush (tk K_X11_makeMove 73 rfl) bp_7 ?_
      have h := h _ rfl
      refine x_putI (tk K_X11_makeMove 74 rfl) f_X11_300 rfl (Or.inl rfl) (RfS.o hS) ?_
      refine x_goto (t := 222) (tk K_X11_makeMove 75 rfl) rfl ?_
      exact x_return (tk K_X11_makeMove 89 rfl) rfl h
    · refine ⟨191, 195, rfl, rfl, ?_⟩
      have h := h.2.2.2.2.2.2.2.2 (by omega)
      refine x_aload_n (tk K_X11_makeMove 76 rfl) rfl rfl ?_
      refine x_iload_n (tk K_X11_makeMove 77 rfl) rfl rfl ?_
      refine x_if_ne (t := 207) (tk K_X11_makeMove 78 rfl) rfl (fun hc => ?_) (fun hc => ?_)
      · have h := h.1 hc
        refine x_aload_n (tk K_X11_makeMove 82 rfl) rfl rfl ?_
        refine x_getI (tk K_X11_makeMove 83 rfl) f_X11_328 rfl (RfS.o hS) ?_
        refine x_msk [true, false, false] ?_
        exact h
      · have h := h.2 hc
        refine x_aload_n (tk K_X11_makeMove 79 rfl) rfl rfl ?_
        refine x_getI (tk K_X11_makeMove 80 rfl) f_X11_318 rfl (RfS.o hS) ?_
        refine x_goto (t := 211) (tk K_X11_makeMove 81 rfl) rfl ?_
        refine x_msk [true, false, false] ?_
        exact h

theorem b_X11_makeMove_164 {X : Cx} {d kc ns : Nat} {M : Mem} {Q : Option AV → Mem → Prop} {l1 : Int32} (hS : RfS M) (hd : 1 ≤ d)
    (h : Cl X (d - 1) 0 0 m_X11_keepAll [vR 75, vI l1] M (fun r M1 => r = none ∧ Ext M M1 ∧ Q none M1)) :
    WA X d kc ns m_X11_makeMove 164 [some (vR 75), some (vI l1), none] [] M Q := by
  refine x_aload_n (tk K_X11_makeMove 61 rfl) rfl rfl ?_
  refine x_iload_n (tk K_X11_makeMove 62 rfl) rfl rfl ?_
  refine x_callV0 (As := [vI _]) (S := []) (tk K_X11_makeMove 63 rfl) mk_X11_325 mo_X11_keepAll (RfS.o hS) rfl rfl (Nat.le_of_ble_eq_true rfl) hd h (fun r M1 hq => ?_)
  obtain ⟨rfl, hE, h⟩ := hq
  have hT0 := RfS.ext hS hE
  refine x_goto (t := 222) (tk K_X11_makeMove 64 rfl) rfl ?_
  exact x_return (tk K_X11_makeMove 89 rfl) rfl h

theorem b_X11_makeMove_172 {X : Cx} {d kc ns : Nat} {M : Mem} {Q : Option AV → Mem → Prop} (hS : RfS M)
    (h : ∀ M1 : Mem, M1 = sI M 75 29 (nI 6) → Q none M1) :
    WA X d kc ns m_X11_makeMove 172 [some (vR 75), none, none] [] M Q := by
  refine x_aload_n (tk K_X11_makeMove 65 rfl) rfl rfl ?_
  refine x_bipush (tk K_X11_makeMove 66 rfl) bp_6 ?_
  have h := h _ rfl
  refine x_putI (tk K_X11_makeMove 67 rfl) f_X11_300 rfl (Or.inl rfl) (RfS.o hS) ?_
  refine x_goto (t := 222) (tk K_X11_makeMove 68 rfl) rfl ?_
  exact x_return (tk K_X11_makeMove 89 rfl) rfl h

theorem b_X11_makeMove_211 {X : Cx} {d kc ns : Nat} {M : Mem} {Q : Option AV → Mem → Prop} {s1 : Int32} (hS : RfS M) (hd : 1 ≤ d)
    (h : Cl X (d - 1) 0 0 m_X11_keepAll [vR 75, vI s1] M (fun r M1 => r = none ∧ Ext M M1 ∧ Q none M1)) :
    WA X d kc ns m_X11_makeMove 211 [some (vR 75), none, none] [vI s1, vR 75] M Q := by
  refine x_callV0 (As := [vI _]) (S := []) (tk K_X11_makeMove 84 rfl) mk_X11_325 mo_X11_keepAll (RfS.o hS) rfl rfl (Nat.le_of_ble_eq_true rfl) hd h (fun r M1 hq => ?_)
  obtain ⟨rfl, hE, h⟩ := hq
  have hT0 := RfS.ext hS hE
  refine x_goto (t := 222) (tk K_X11_makeMove 85 rfl) rfl ?_
  exact x_return (tk K_X11_makeMove 89 rfl) rfl h

theorem b_X11_makeMove_217 {X : Cx} {d kc ns : Nat} {M : Mem} {Q : Option AV → Mem → Prop} {l1 : Int32} (hS : RfS M) (hd : 1 ≤ d)
    (h : Cl X (d - 1) 0 0 m_X11_keepAll [vR 75, vI l1] M (fun r M1 => r = none ∧ Ext M M1 ∧ Q none M1)) :
    WA X d kc ns m_X11_makeMove 217 [some (vR 75), some (vI l1), none] [] M Q := by
  refine x_aload_n (tk K_X11_makeMove 86 rfl) rfl rfl ?_
  refine x_iload_n (tk K_X11_makeMove 87 rfl) rfl rfl ?_
  refine x_callV0 (As := [vI _]) (S := []) (tk K_X11_makeMove 88 rfl) mk_X11_325 mo_X11_keepAll (RfS.o hS) rfl rfl (Nat.le_of_ble_eq_true rfl) hd h (fun r M1 hq => ?_)
  obtain ⟨rfl, hE, h⟩ := hq
  have hT0 := RfS.ext hS hE
  exact x_return (tk K_X11_makeMove 89 rfl) rfl h

theorem e_X11_makeMove {X : Cx} {d kc ns : Nat} {M : Mem} {Q : Option AV → Mem → Prop} {a1 : Int32} {a2 : Int32} (h : WA X d kc ns m_X11_makeMove 0 [some (vR 75), some (vI a1), some (vI a2)] [] M Q) : Cl X d kc ns m_X11_makeMove [vR 75, vI a1, vI a2] M Q := Cl.intro (k := 0) (by decide) rfl rfl h

-- TwoPencilsModel.half(II)I
theorem b_X11_half_0 {X : Cx} {d kc ns : Nat} {M : Mem} {Q : Option AV → Mem → Prop} {l1 : Int32} {l2 : Int32} (hS : RfS M)
    (h : vp_in (mI M 75 19) 7 ∧ Q (some (vI ((shr l1 ((nI 3) * (((mI M 77 (ix (mI M 75 19))) - (nI 1)) - l2))) &&& (nI 7)))) M) :
    WA X d kc ns m_X11_half 0 [some (vR 75), some (vI l1), some (vI l2)] [] M Q := by
  refine x_iload_n (tk K_X11_half 0 rfl) rfl rfl ?_
  refine x_iconst (tk K_X11_half 1 rfl) ic_3 ?_
  refine x_aload_n (tk K_X11_half 2 rfl) rfl rfl ?_
  refine x_getRc (tk K_X11_half 3 rfl) f_X11_13 rfl (RfS.o hS) (RfS.r5 hS) ?_
  refine x_aload_n (tk K_X11_half 4 rfl) rfl rfl ?_
  refine x_getI (tk K_X11_half 5 rfl) f_X11_184 rfl (RfS.o hS) ?_
  have hi := h.1
  have h := h.2
  refine x_iald (tk K_X11_half 6 rfl) (RfS.k5 hS) hi ?_
  refine x_iconst (tk K_X11_half 7 rfl) ic_1 ?_
  refine x_isub (tk K_X11_half 8 rfl) ?_
  refine x_iload_n (tk K_X11_half 9 rfl) rfl rfl ?_
  refine x_isub (tk K_X11_half 10 rfl) ?_
  refine x_imul (tk K_X11_half 11 rfl) ?_
  refine x_ishr (tk K_X11_half 12 rfl) ?_
  refine x_bipush (tk K_X11_half 13 rfl) bp_7 ?_
  refine x_iand (tk K_X11_half 14 rfl) ?_
  exact x_ireturn (tk K_X11_half 15 rfl) rfl rfl h

theorem e_X11_half {X : Cx} {d kc ns : Nat} {M : Mem} {Q : Option AV → Mem → Prop} {a1 : Int32} {a2 : Int32} (h : WA X d kc ns m_X11_half 0 [some (vR 75), some (vI a1), some (vI a2)] [] M Q) : Cl X d kc ns m_X11_half [vR 75, vI a1, vI a2] M Q := Cl.intro (k := 0) (by decide) rfl rfl h

-- TwoPencilsModel.halfOf(III)I
theorem b_X11_halfOf_0 {X : Cx} {d kc ns : Nat} {M : Mem} {Q : Option AV → Mem → Prop} {l1 : Int32} {l2 : Int32} {l3 : Int32} (hS : RfS M)
    (h : WA X d kc ns m_X11_halfOf 6 [some (vR 75), some (vI l1), some (vI l2), some (vI l3), some (vI (nI 0)), some (vI (nI 0))] [] M Q) :
    WA X d kc ns m_X11_halfOf 0 [some (vR 75), some (vI l1), some (vI l2), some (vI l3), none, none] [] M Q := by
  refine x_iconst (tk K_X11_halfOf 0 rfl) ic_0 ?_
  refine x_istore (L' := [some (vR _), some (vI _), some (vI _), some (vI _), some (vI _), none]) (tk K_X11_halfOf 1 rfl) rfl (Nat.le_of_ble_eq_true rfl) rfl ?_
  refine x_iconst (tk K_X11_halfOf 2 rfl) ic_0 ?_
  refine x_istore (L' := [some (vR _), some (vI _), some (vI _), some (vI _), some (vI _), some (vI _)]) (tk K_X11_halfOf 3 rfl) rfl (Nat.le_of_ble_eq_true rfl) rfl ?_
  exact h

theorem b_X11_halfOf_6 {X : Cx} {d kc ns : Nat} {M : Mem} {Q : Option AV → Mem → Prop} {l1 : Int32} {l2 : Int32} {l3 : Int32} {l4 : Int32} {l5 : Int32} (hS : RfS M) (hd : 1 ≤ d)
    (h : vp_in (mI M 75 19) 7 ∧ (((mI M 77 (ix (mI M 75 19))) ≤ l5 → Q (some (vI l4)) M) ∧ (¬ (mI M 77 (ix (mI M 75 19))) ≤ l5 → ((¬ ((shr l2 l5) &&& (nI 1)) = (nI 1) → WA X d kc ns m_X11_halfOf 50 [some (vR 75), some (vI l1), some (vI l2), some (vI l3), none, some (vI l5)] [vI l4] M Q) ∧ (((shr l2 l5) &&& (nI 1)) = (nI 1) → Cl X (d - 1) 0 0 m_X11_half [vR 75, vI l1, vI l5] M (fun r M1 => ∃ x1 : Int32, r = some (vI x1) ∧ Ext M M1 ∧ ((¬ x1 = l3 → WA X d kc ns m_X11_halfOf 50 [some (vR 75), some (vI l1), some (vI l2), some (vI l3), none, some (vI l5)] [vI l4] M1 Q) ∧ (x1 = l3 → ∀ x2 : Int32, x2 = (l4 ||| (shl (nI 1) l5)) → WA X d kc ns m_X11_halfOf 6 [some (vR 75), some (vI l1), some (vI l2), some (vI l3), some (vI x2), some (vI (l5 + (nI 1)))] [] M1 Q)))))))) :
    WA X d kc ns m_X11_halfOf 6 [some (vR 75), some (vI l1), some (vI l2), some (vI l3), some (vI l4), some (vI l5)] [] M Q := by
  refine x_iload (tk K_X11_halfOf 4 rfl) rfl ?_
  refine x_aload_n (tk K_X11_halfOf 5 rfl) rfl rfl ?_
  refine x_getRc (tk K_X11_halfOf 6 rfl) f_X11_13 rfl (RfS.o hS) (RfS.r5 hS) ?_
  refine x_aload_n (tk K_X11_halfOf 7 rfl) rfl rfl ?_
  refine x_getI (tk K_X11_halfOf 8 rfl) f_X11_184 rfl (RfS.o hS) ?_
  have hi := h.1
  have h := h.2
  refine x_iald (tk K_X11_halfOf 9 rfl) (RfS.k5 hS) hi ?_
  refine x_icmp_ge (t := 60) (tk K_X11_halfOf 10 rfl) rfl (fun hc => ?_) (fun hc => ?_)
  · have h := h.1 hc
    refine x_iload (tk K_X11_halfOf 34 rfl) rfl ?_
    exact x_ireturn (tk K_X11_halfOf 35 rfl) rfl rfl h
  · have h := h.2 hc
    refine x_iload (tk K_X11_halfOf 11 rfl) rfl ?_
    refine x_iload_n (tk K_X11_halfOf 12 rfl) rfl rfl ?_
    refine x_iload (tk K_X11_halfOf 13 rfl) rfl ?_
    refine x_ishr (tk K_X11_halfOf 14 rfl) ?_
    refine x_iconst (tk K_X11_halfOf 15 rfl) ic_1 ?_
    refine x_iand (tk K_X11_halfOf 16 rfl) ?_
    refine x_iconst (tk K_X11_halfOf 17 rfl) ic_1 ?_
    refine x_icmp_ne (t := 50) (tk K_X11_halfOf 18 rfl) rfl (fun hc => ?_) (fun hc => ?_)
    · have h := h.1 hc
      refine x_msk [true, true, true, true, false, true] ?_
      exact h
    · have h := h.2 hc
      refine x_aload_n (tk K_X11_halfOf 19 rfl) rfl rfl ?_
      refine x_iload_n (tk K_X11_halfOf 20 rfl) rfl rfl ?_
      refine x_iload (tk K_X11_halfOf 21 rfl) rfl ?_
      refine x_callV0 (As := [vI _, vI _]) (S := [vI _]) (tk K_X11_halfOf 22 rfl) mk_X11_331 mo_X11_half (RfS.o hS) rfl rfl (Nat.le_of_ble_eq_true rfl) hd h (fun r M1 hq => ?_)
      obtain ⟨x1, rfl, hE, h⟩ := hq
      have hT0 := RfS.ext hS hE
      have hT1 := hE.1 _ _ _ (RfS.k5 hS)
      refine x_iload_n (tk K_X11_halfOf 23 rfl) rfl rfl ?_
      refine x_icmp_ne (t := 50) (tk K_X11_halfOf 24 rfl) rfl (fun hc => ?_) (fun hc => ?_)
      · have h := h.1 hc
        refine x_msk [true, true, true, true, false, true] ?_
        exact h
      · have h := h.2 hc
        refine x_iconst (tk K_X11_halfOf 25 rfl) ic_1 ?_
        refine x_iload (tk K_X11_halfOf 26 rfl) rfl ?_
        refine x_ishl (tk K_X11_halfOf 27 rfl) ?_
        refine x_goto (t := 51) (tk K_X11_halfOf 28 rfl) rfl ?_
        refine x_ior (tk K_X11_halfOf 30 rfl) ?_
        have h := h _ rfl
        refine x_istore (L' := [some (vR _), some (vI _), some (vI _), some (vI _), some (vI _), some (vI _)]) (tk K_X11_halfOf 31 rfl) rfl (Nat.le_of_ble_eq_true rfl) rfl ?_
        refine x_iincW (L' := [some (vR _), some (vI _), some (vI _), some (vI _), some (vI _), some (vI _)]) (tk K_X11_halfOf 32 rfl) rfl ic_1 rfl (Nat.le_of_ble_eq_true rfl) rfl ?_
        refine x_goto (t := 6) (tk K_X11_halfOf 33 rfl) rfl ?_
        exact h

theorem b_X11_halfOf_50 {X : Cx} {d kc ns : Nat} {M : Mem} {Q : Option AV → Mem → Prop} {l1 : Int32} {l2 : Int32} {l3 : Int32} {l5 : Int32} {s0 : Int32} (hS : RfS M)
    (h : ∀ x1 : Int32, x1 = (s0 ||| (nI 0)) → WA X d kc ns m_X11_halfOf 6 [some (vR 75), some (vI l1), some (vI l2), some (vI l3), some (vI x1), some (vI (l5 + (nI 1)))] [] M Q) :
    WA X d kc ns m_X11_halfOf 50 [some (vR 75), some (vI l1), some (vI l2), some (vI l3), none, some (vI l5)] [vI s0] M Q := by
  refine x_iconst (tk K_X11_halfOf 29 rfl) ic_0 ?_
  refine x_ior (tk K_X11_halfOf 30 rfl) ?_
  have h := h _ rfl
  refine x_istore (L' := [some (vR _), some (vI _), some (vI _), some (vI _), some (vI _), some (vI _)]) (tk K_X11_halfOf 31 rfl) rfl (Nat.le_of_ble_eq_true rfl) rfl ?_
  refine x_iincW (L' := [some (vR _), some (vI _), some (vI _), some (vI _), some (vI _), some (vI _)]) (tk K_X11_halfOf 32 rfl) rfl ic_1 rfl (Nat.le_of_ble_eq_true rfl) rfl ?_
  refine x_goto (t := 6) (tk K_X11_halfOf 33 rfl) rfl ?_
  exact h

theorem e_X11_halfOf {X : Cx} {d kc ns : Nat} {M : Mem} {Q : Option AV → Mem → Prop} {a1 : Int32} {a2 : Int32} {a3 : Int32} (h : WA X d kc ns m_X11_halfOf 0 [some (vR 75), some (vI a1), some (vI a2), some (vI a3), none, none] [] M Q) : Cl X d kc ns m_X11_halfOf [vR 75, vI a1, vI a2, vI a3] M Q := Cl.intro (k := 2) (by decide) rfl rfl h

-- TwoPencilsModel.hangs(I)Z
theorem b_X11_hangs_0 {X : Cx} {d kc ns : Nat} {M : Mem} {Q : Option AV → Mem → Prop} {l0 : Int32}
    (h : ((l0 = (nI 2) → Q (some (vI (nI 0))) M) ∧ (¬ l0 = (nI 2) → Q (some (vI (nI 1))) M))) :
    WA X d kc ns m_X11_hangs 0 [some (vI l0)] [] M Q := by
  refine x_iload_n (tk K_X11_hangs 0 rfl) rfl rfl ?_
  refine x_iconst (tk K_X11_hangs 1 rfl) ic_2 ?_
  refine x_icmp_eq (t := 9) (tk K_X11_hangs 2 rfl) rfl (fun hc => ?_) (fun hc => ?_)
  · have h := h.1 hc
    refine x_iconst (tk K_X11_hangs 5 rfl) ic_0 ?_
    exact x_ireturn (tk K_X11_hangs 6 rfl) rfl (fitZ (Or.inl rfl)).1 h
  · have h := h.2 hc
    refine x_iconst (tk K_X11_hangs 3 rfl) ic_1 ?_
    refine x_goto (t := 10) (tk K_X11_hangs 4 rfl) rfl ?_
    exact x_ireturn (tk K_X11_hangs 6 rfl) rfl (fitZ (Or.inr rfl)).1 h

theorem e_X11_hangs {X : Cx} {d kc ns : Nat} {M : Mem} {Q : Option AV → Mem → Prop} {a0 : Int32} (h : WA X d kc ns m_X11_hangs 0 [some (vI a0)] [] M Q) : Cl X d kc ns m_X11_hangs [vI a0] M Q := Cl.intro (k := 0) (by decide) rfl rfl h

-- TwoPencilsModel.isHalves(III)Z
theorem b_X11_isHalves_0 {X : Cx} {d kc ns : Nat} {M : Mem} {Q : Option AV → Mem → Prop} {l1 : Int32} {l2 : Int32} {l3 : Int32} (hS : RfS M)
    (h : ((l1 < nI 0 → Q (some (vI (nI 0))) M) ∧ (¬ l1 < nI 0 → vp_in (mI M 75 19) 7 ∧ (((shr l1 ((nI 3) * (mI M 77 (ix (mI M 75 19))))) = nI 0 → WA X d kc ns m_X11_isHalves 28 [some (vR 75), some (vI l1), some (vI l2), some (vI l3), some (vI (nI 0)), some (vI (nI 0)), none, none] [] M Q) ∧ (¬ (shr l1 ((nI 3) * (mI M 77 (ix (mI M 75 19))))) = nI 0 → Q (some (vI (nI 0))) M))))) :
    WA X d kc ns m_X11_isHalves 0 [some (vR 75), some (vI l1), some (vI l2), some (vI l3), none, none, none, none] [] M Q := by
  refine x_iload_n (tk K_X11_isHalves 0 rfl) rfl rfl ?_
  refine x_if_lt (t := 20) (tk K_X11_isHalves 1 rfl) rfl (fun hc => ?_) (fun hc => ?_)
  · have h := h.1 hc
    refine x_iconst (tk K_X11_isHalves 12 rfl) ic_0 ?_
    exact x_ireturn (tk K_X11_isHalves 13 rfl) rfl (fitZ (Or.inl rfl)).1 h
  · have h := h.2 hc
    refine x_iload_n (tk K_X11_isHalves 2 rfl) rfl rfl ?_
    refine x_iconst (tk K_X11_isHalves 3 rfl) ic_3 ?_
    refine x_aload_n (tk K_X11_isHalves 4 rfl) rfl rfl ?_
    refine x_getRc (tk K_X11_isHalves 5 rfl) f_X11_13 rfl (RfS.o hS) (RfS.r5 hS) ?_
    refine x_aload_n (tk K_X11_isHalves 6 rfl) rfl rfl ?_
    refine x_getI (tk K_X11_isHalves 7 rfl) f_X11_184 rfl (RfS.o hS) ?_
    have hi := h.1
    have h := h.2
    refine x_iald (tk K_X11_isHalves 8 rfl) (RfS.k5 hS) hi ?_
    refine x_imul (tk K_X11_isHalves 9 rfl) ?_
    refine x_ishr (tk K_X11_isHalves 10 rfl) ?_
    refine x_if_eq (t := 22) (tk K_X11_isHalves 11 rfl) rfl (fun hc => ?_) (fun hc => ?_)
    · have h := h.1 hc
      refine x_iconst (tk K_X11_isHalves 14 rfl) ic_0 ?_
      refine x_istore (L' := [some (vR _), some (vI _), some (vI _), some (vI _), some (vI _), none, none, none]) (tk K_X11_isHalves 15 rfl) rfl (Nat.le_of_ble_eq_true rfl) rfl ?_
      refine x_iconst (tk K_X11_isHalves 16 rfl) ic_0 ?_
      refine x_istore (L' := [some (vR _), some (vI _), some (vI _), some (vI _), some (vI _), some (vI _), none, none]) (tk K_X11_isHalves 17 rfl) rfl (Nat.le_of_ble_eq_true rfl) rfl ?_
      exact h
    · have h := h.2 hc
      refine x_iconst (tk K_X11_isHalves 12 rfl) ic_0 ?_
      exact x_ireturn (tk K_X11_isHalves 13 rfl) rfl (fitZ (Or.inl rfl)).1 h

theorem b_X11_isHalves_28 {X : Cx} {d kc ns : Nat} {M : Mem} {Q : Option AV → Mem → Prop} {l1 : Int32} {l2 : Int32} {l3 : Int32} {l4 : Int32} {l5 : Int32} (hS : RfS M) (hd : 1 ≤ d)
    (h : vp_in (mI M 75 19) 7 ∧ (((mI M 77 (ix (mI M 75 19))) ≤ l5 → ((l4 = ((nI 2) * l3) → WA X d kc ns m_X11_isHalves 131 [some (vR 75), some (vI l1), some (vI l2), some (vI l3), none, some (vI (nI 0)), none, none] [] M Q) ∧ (¬ l4 = ((nI 2) * l3) → Q (some (vI (nI 0))) M))) ∧ (¬ (mI M 77 (ix (mI M 75 19))) ≤ l5 → Cl X (d - 1) 0 0 m_X11_half [vR 75, vI l1, vI l5] M (fun r M1 => ∃ x1 : Int32, r = some (vI x1) ∧ Ext M M1 ∧ ((¬ ((shr l2 l5) &&& (nI 1)) = (nI 1) → WA X d kc ns m_X11_isHalves 66 [some (vR 75), some (vI l1), some (vI l2), some (vI l3), some (vI l4), some (vI l5), some (vI x1), none] [vI (nI 0)] M1 Q) ∧ (((shr l2 l5) &&& (nI 1)) = (nI 1) → WA X d kc ns m_X11_isHalves 66 [some (vR 75), some (vI l1), some (vI l2), some (vI l3), some (vI l4), some (vI l5), some (vI x1), none] [vI (nI 1)] M1 Q)))))) :
    WA X d kc ns m_X11_isHalves 28 [some (vR 75), some (vI l1), some (vI l2), some (vI l3), some (vI l4), some (vI l5), none, none] [] M Q := by
  refine x_iload (tk K_X11_isHalves 18 rfl) rfl ?_
  refine x_aload_n (tk K_X11_isHalves 19 rfl) rfl rfl ?_
  refine x_getRc (tk K_X11_isHalves 20 rfl) f_X11_13 rfl (RfS.o hS) (RfS.r5 hS) ?_
  refine x_aload_n (tk K_X11_isHalves 21 rfl) rfl rfl ?_
  refine x_getI (tk K_X11_isHalves 22 rfl) f_X11_184 rfl (RfS.o hS) ?_
  have hi := h.1
  have h := h.2
  refine x_iald (tk K_X11_isHalves 23 rfl) (RfS.k5 hS) hi ?_
  refine x_icmp_ge (t := 118) (tk K_X11_isHalves 24 rfl) rfl (fun hc => ?_) (fun hc => ?_)
  · have h := h.1 hc
    refine x_iload (tk K_X11_isHalves 64 rfl) rfl ?_
    refine x_iconst (tk K_X11_isHalves 65 rfl) ic_2 ?_
    refine x_iload_n (tk K_X11_isHalves 66 rfl) rfl rfl ?_
    refine x_imul (tk K_X11_isHalves 67 rfl) ?_
    refine x_icmp_eq (t := 128) (tk K_X11_isHalves 68 rfl) rfl (fun hc => ?_) (fun hc => ?_)
    · have h := h.1 hc
      refine x_iconst (tk K_X11_isHalves 71 rfl) ic_0 ?_
      refine x_istore (L' := [some (vR _), some (vI _), some (vI _), some (vI _), some (vI _), some (vI _), none, none]) (tk K_X11_isHalves 72 rfl) rfl (Nat.le_of_ble_eq_true rfl) rfl ?_
      refine x_msk [true, true, true, true, false, true, false, false] ?_
      exact h
    · have h := h.2 hc
      refine x_iconst (tk K_X11_isHalves 69 rfl) ic_0 ?_
      exact x_ireturn (tk K_X11_isHalves 70 rfl) rfl (fitZ (Or.inl rfl)).1 h
  · have h := h.2 hc
    refine x_aload_n (tk K_X11_isHalves 25 rfl) rfl rfl ?_
    refine x_iload_n (tk K_X11_isHalves 26 rfl) rfl rfl ?_
    refine x_iload (tk K_X11_isHalves 27 rfl) rfl ?_
    refine x_callV0 (As := [vI _, vI _]) (S := []) (tk K_X11_isHalves 28 rfl) mk_X11_331 mo_X11_half (RfS.o hS) rfl rfl (Nat.le_of_ble_eq_true rfl) hd h (fun r M1 hq => ?_)
    obtain ⟨x1, rfl, hE, h⟩ := hq
    have hT0 := RfS.ext hS hE
    have hT1 := hE.1 _ _ _ (RfS.k5 hS)
    refine x_istore (L' := [some (vR _), some (vI _), some (vI _), some (vI _), some (vI _), some (vI _), some (vI _), none]) (tk K_X11_isHalves 29 rfl) rfl (Nat.le_of_ble_eq_true rfl) rfl ?_
    refine x_iload_n (tk K_X11_isHalves 30 rfl) rfl rfl ?_
    refine x_iload (tk K_X11_isHalves 31 rfl) rfl ?_
    refine x_ishr (tk K_X11_isHalves 32 rfl) ?_
    refine x_iconst (tk K_X11_isHalves 33 rfl) ic_1 ?_
    refine x_iand (tk K_X11_isHalves 34 rfl) ?_
    refine x_iconst (tk K_X11_isHalves 35 rfl) ic_1 ?_
    refine x_icmp_ne (t := 65) (tk K_X11_isHalves 36 rfl) rfl (fun hc => ?_) (fun hc => ?_)
    · have h := h.1 hc
      refine x_iconst (tk K_X11_isHalves 39 rfl) ic_0 ?_
      exact h
    · have h := h.2 hc
      refine x_iconst (tk K_X11_isHalves 37 rfl) ic_1 ?_
      refine x_goto (t := 66) (tk K_X11_isHalves 38 rfl) rfl ?_
      exact h

theorem b_X11_isHalves_66 {X : Cx} {d kc ns : Nat} {M : Mem} {Q : Option AV → Mem → Prop} {l1 : Int32} {l2 : Int32} {l3 : Int32} {l4 : Int32} {l5 : Int32} {l6 : Int32} {s0 : Int32} (hS : RfS M)
    (h : ((s0 = nI 0 → ((l6 = nI 0 → WA X d kc ns m_X11_isHalves 90 [some (vR 75), some (vI l1), some (vI l2), some (vI l3), some (vI l4), some (vI l5), some (vI l6), some (vI s0)] [] M Q) ∧ (¬ l6 = nI 0 → Q (some (vI (nI 0))) M))) ∧ (¬ s0 = nI 0 → ((l6 ≤ l4 → WA X d kc ns m_X11_isHalves 90 [some (vR 75), some (vI l1), some (vI l2), some (vI l3), some (vI l4), some (vI l5), some (vI l6), some (vI s0)] [] M Q) ∧ (¬ l6 ≤ l4 → Q (some (vI (nI 0))) M))))) :
    WA X d kc ns m_X11_isHalves 66 [some (vR 75), some (vI l1), some (vI l2), some (vI l3), some (vI l4), some (vI l5), some (vI l6), none] [vI s0] M Q := by
  refine x_istore (L' := [some (vR _), some (vI _), some (vI _), some (vI _), some (vI _), some (vI _), some (vI _), some (vI _)]) (tk K_X11_isHalves 40 rfl) rfl (Nat.le_of_ble_eq_true rfl) rfl ?_
  refine x_iload (tk K_X11_isHalves 41 rfl) rfl ?_
  refine x_if_eq (t := 83) (tk K_X11_isHalves 42 rfl) rfl (fun hc => ?_) (fun hc => ?_)
  · have h := h.1 hc
    refine x_iload (tk K_X11_isHalves 47 rfl) rfl ?_
    refine x_if_eq (t := 90) (tk K_X11_isHalves 48 rfl) rfl (fun hc => ?_) (fun hc => ?_)
    · have h := h.1 hc
      exact h
    · have h := h.2 hc
      refine x_iconst (tk K_X11_isHalves 49 rfl) ic_0 ?_
      exact x_ireturn (tk K_X11_isHalves 50 rfl) rfl (fitZ (Or.inl rfl)).1 h
  · have h := h.2 hc
    refine x_iload (tk K_X11_isHalves 43 rfl) rfl ?_
    refine x_iload (tk K_X11_isHalves 44 rfl) rfl ?_
    refine x_icmp_le (t := 90) (tk K_X11_isHalves 45 rfl) rfl (fun hc => ?_) (fun hc => ?_)
    · have h := h.1 hc
      exact h
    · have h := h.2 hc
      refine x_goto (t := 88) (tk K_X11_isHalves 46 rfl) rfl ?_
      refine x_iconst (tk K_X11_isHalves 49 rfl) ic_0 ?_
      exact x_ireturn (tk K_X11_isHalves 50 rfl) rfl (fitZ (Or.inl rfl)).1 h

theorem b_X11_isHalves_90 {X : Cx} {d kc ns : Nat} {M : Mem} {Q : Option AV → Mem → Prop} {l1 : Int32} {l2 : Int32} {l3 : Int32} {l4 : Int32} {l5 : Int32} {l6 : Int32} {l7 : Int32} (hS : RfS M)
    (h : ((l7 = nI 0 → WA X d kc ns m_X11_isHalves 108 [some (vR 75), some (vI l1), some (vI l2), some (vI l3), none, some (vI l5), none, none] [vI l4] M Q) ∧ (¬ l7 = nI 0 → ((¬ l6 = l4 → WA X d kc ns m_X11_isHalves 108 [some (vR 75), some (vI l1), some (vI l2), some (vI l3), none, some (vI l5), none, none] [vI l4] M Q) ∧ (l6 = l4 → ∀ x1 : Int32, x1 = (l4 + (nI 1)) → WA X d kc ns m_X11_isHalves 28 [some (vR 75), some (vI l1), some (vI l2), some (vI l3), some (vI x1), some (vI (l5 + (nI 1))), none, none] [] M Q))))) :
    WA X d kc ns m_X11_isHalves 90 [some (vR 75), some (vI l1), some (vI l2), some (vI l3), some (vI l4), some (vI l5), some (vI l6), some (vI l7)] [] M Q := by
  refine x_iload (tk K_X11_isHalves 51 rfl) rfl ?_
  refine x_iload (tk K_X11_isHalves 52 rfl) rfl ?_
  refine x_if_eq (t := 108) (tk K_X11_isHalves 53 rfl) rfl (fun hc => ?_) (fun hc => ?_)
  · have h := h.1 hc
    refine x_msk [true, true, true, true, false, true, false, false] ?_
    exact h
  · have h := h.2 hc
    refine x_iload (tk K_X11_isHalves 54 rfl) rfl ?_
    refine x_iload (tk K_X11_isHalves 55 rfl) rfl ?_
    refine x_icmp_ne (t := 108) (tk K_X11_isHalves 56 rfl) rfl (fun hc => ?_) (fun hc => ?_)
    · have h := h.1 hc
      refine x_msk [true, true, true, true, false, true, false, false] ?_
      exact h
    · have h := h.2 hc
      refine x_iconst (tk K_X11_isHalves 57 rfl) ic_1 ?_
      refine x_goto (t := 109) (tk K_X11_isHalves 58 rfl) rfl ?_
      refine x_iadd (tk K_X11_isHalves 60 rfl) ?_
      have h := h _ rfl
      refine x_istore (L' := [some (vR _), some (vI _), some (vI _), some (vI _), some (vI _), some (vI _), some (vI _), some (vI _)]) (tk K_X11_isHalves 61 rfl) rfl (Nat.le_of_ble_eq_true rfl) rfl ?_
      refine x_iincW (L' := [some (vR _), some (vI _), some (vI _), some (vI _), some (vI _), some (vI _), some (vI _), some (vI _)]) (tk K_X11_isHalves 62 rfl) rfl ic_1 rfl (Nat.le_of_ble_eq_true rfl) rfl ?_
      refine x_goto (t := 28) (tk K_X11_isHalves 63 rfl) rfl ?_
      refine x_msk [true, true, true, true, true, true, false, false] ?_
      exact h

theorem b_X11_isHalves_108 {X : Cx} {d kc ns : Nat} {M : Mem} {Q : Option AV → Mem → Prop} {l1 : Int32} {l2 : Int32} {l3 : Int32} {l5 : Int32} {s0 : Int32} (hS : RfS M)
    (h : ∀ x1 : Int32, x1 = (s0 + (nI 0)) → WA X d kc ns m_X11_isHalves 28 [some (vR 75), some (vI l1), some (vI l2), some (vI l3), some (vI x1), some (vI (l5 + (nI 1))), none, none] [] M Q) :
    WA X d kc ns m_X11_isHalves 108 [some (vR 75), some (vI l1), some (vI l2), some (vI l3), none, some (vI l5), none, none] [vI s0] M Q := by
  refine x_iconst (tk K_X11_isHalves 59 rfl) ic_0 ?_
  refine x_iadd (tk K_X11_isHalves 60 rfl) ?_
  have h := h _ rfl
  refine x_istore (L' := [some (vR _), some (vI _), some (vI _), some (vI _), some (vI _), some (vI _), none, none]) (tk K_X11_isHalves 61 rfl) rfl (Nat.le_of_ble_eq_true rfl) rfl ?_
  refine x_iincW (L' := [some (vR _), some (vI _), some (vI _), some (vI _), some (vI _), some (vI _), none, none]) (tk K_X11_isHalves 62 rfl) rfl ic_1 rfl (Nat.le_of_ble_eq_true rfl) rfl ?_
  refine x_goto (t := 28) (tk K_X11_isHalves 63 rfl) rfl ?_
  exact h

theorem b_X11_isHalves_131 {X : Cx} {d kc ns : Nat} {M : Mem} {Q : Option AV → Mem → Prop} {l1 : Int32} {l2 : Int32} {l3 : Int32} {l5 : Int32} (hS : RfS M) (hd : 1 ≤ d)
    (h : ((((nI 2) * l3) ≤ l5 → Cl X (d - 1) 0 0 m_X11_canPair [vR 75, vI (nI 0), vI ((nI 2) * l3)] M (fun r M1 => ∃ x1 : Int32, r = some (vI x1) ∧ Ext M M1 ∧ (isB x1 ∧ Q (some (vI x1)) M1))) ∧ (¬ ((nI 2) * l3) ≤ l5 → Cl X (d - 1) 0 0 m_X11_halfOf [vR 75, vI l1, vI l2, vI l5] M (fun r M2 => ∃ x2 : Int32, r = some (vI x2) ∧ Ext M M2 ∧ vp_in l5 8 ∧ ∀ M3 : Mem, M3 = sI M2 93 (ix l5) x2 → vp_in l5 8 ∧ vp_in (mI M3 93 (ix l5)) 512 ∧ Cl X (d - 1) 0 0 m_X11_hangs [vI (mI M3 87 (ix (mI M3 93 (ix l5))))] M3 (fun r M4 => ∃ x3 : Int32, r = some (vI x3) ∧ Ext M3 M4 ∧ ((¬ x3 = nI 0 → WA X d kc ns m_X11_isHalves 131 [some (vR 75), some (vI l1), some (vI l2), some (vI l3), none, some (vI (l5 + (nI 1))), none, none] [] M4 Q) ∧ (x3 = nI 0 → Q (some (vI (nI 0))) M4))))))) :
    WA X d kc ns m_X11_isHalves 131 [some (vR 75), some (vI l1), some (vI l2), some (vI l3), none, some (vI l5), none, none] [] M Q := by
  refine x_iload (tk K_X11_isHalves 73 rfl) rfl ?_
  refine x_iconst (tk K_X11_isHalves 74 rfl) ic_2 ?_
  refine x_iload_n (tk K_X11_isHalves 75 rfl) rfl rfl ?_
  refine x_imul (tk K_X11_isHalves 76 rfl) ?_
  refine x_icmp_ge (t := 180) (tk K_X11_isHalves 77 rfl) rfl (fun hc => ?_) (fun hc => ?_)
  · have h := h.1 hc
    refine x_aload_n (tk K_X11_isHalves 100 rfl) rfl rfl ?_
    refine x_iconst (tk K_X11_isHalves 101 rfl) ic_0 ?_
    refine x_iconst (tk K_X11_isHalves 102 rfl) ic_2 ?_
    refine x_iload_n (tk K_X11_isHalves 103 rfl) rfl rfl ?_
    refine x_imul (tk K_X11_isHalves 104 rfl) ?_
    refine x_callV0 (As := [vI _, vI _]) (S := []) (tk K_X11_isHalves 105 rfl) mk_X11_340 mo_X11_canPair (RfS.o hS) rfl rfl (Nat.le_of_ble_eq_true rfl) hd h (fun r M1 hq => ?_)
    obtain ⟨x1, rfl, hE, h⟩ := hq
    have hT0 := RfS.ext hS hE
    exact x_ireturn (tk K_X11_isHalves 106 rfl) rfl (fitZ h.1).1 h.2
  · have h := h.2 hc
    refine x_aload_n (tk K_X11_isHalves 78 rfl) rfl rfl ?_
    refine x_getRc (tk K_X11_isHalves 79 rfl) f_X11_62 rfl (RfS.o hS) (RfS.r34 hS) ?_
    refine x_iload (tk K_X11_isHalves 80 rfl) rfl ?_
    refine x_aload_n (tk K_X11_isHalves 81 rfl) rfl rfl ?_
    refine x_iload_n (tk K_X11_isHalves 82 rfl) rfl rfl ?_
    refine x_iload_n (tk K_X11_isHalves 83 rfl) rfl rfl ?_
    refine x_iload (tk K_X11_isHalves 84 rfl) rfl ?_
    refine x_callV0 (As := [vI _, vI _, vI _]) (S := [vI _, vR _]) (tk K_X11_isHalves 85 rfl) mk_X11_334 mo_X11_halfOf (RfS.o hS) rfl rfl (Nat.le_of_ble_eq_true rfl) hd h (fun r M2 hq => ?_)
    obtain ⟨x2, rfl, hE, h⟩ := hq
    have hT1 := RfS.ext hS hE
    have hT2 := hE.1 _ _ _ (RfS.k34 hS)
    have hi := h.1
    have h := h.2
    have h := h _ rfl
    refine x_iast (tk K_X11_isHalves 86 rfl) hT2 hi ?_
    refine x_aload_n (tk K_X11_isHalves 87 rfl) rfl rfl ?_
    refine x_getRc (tk K_X11_isHalves 88 rfl) f_X11_43 rfl (RfS.o hT1) (RfS.r17 hT1) ?_
    refine x_aload_n (tk K_X11_isHalves 89 rfl) rfl rfl ?_
    refine x_getRc (tk K_X11_isHalves 90 rfl) f_X11_62 rfl (RfS.o hT1) (RfS.r34 hT1) ?_
    refine x_iload (tk K_X11_isHalves 91 rfl) rfl ?_
    have hi := h.1
    have h := h.2
    refine x_iald (tk K_X11_isHalves 92 rfl) (RfS.k34 hT1) hi ?_
    have hi := h.1
    have h := h.2
    refine x_iald (tk K_X11_isHalves 93 rfl) (RfS.k17 hT1) hi ?_
    refine x_callS0 (As := [vI _]) (S := []) (tk K_X11_isHalves 94 rfl) mk_X11_337 mo_X11_hangs rfl rfl (Nat.le_of_ble_eq_true rfl) hd h (fun r M4 hq => ?_)
    obtain ⟨x3, rfl, hE, h⟩ := hq
    have hT3 := RfS.ext hT1 hE
    have hT4 := hE.1 _ _ _ (RfS.k34 hT1)
    have hT5 := hE.1 _ _ _ (RfS.k17 hT1)
    refine x_if_ne (t := 174) (tk K_X11_isHalves 95 rfl) rfl (fun hc => ?_) (fun hc => ?_)
    · have h := h.1 hc
      refine x_iincW (L' := [some (vR _), some (vI _), some (vI _), some (vI _), none, some (vI _), none, none]) (tk K_X11_isHalves 98 rfl) rfl ic_1 rfl (Nat.le_of_ble_eq_true rfl) rfl ?_
      refine x_goto (t := 131) (tk K_X11_isHalves 99 rfl) rfl ?_
      exact h
    · have h := h.2 hc
      refine x_iconst (tk K_X11_isHalves 96 rfl) ic_0 ?_
      exact x_ireturn (tk K_X11_isHalves 97 rfl) rfl (fitZ (Or.inl rfl)).1 h

theorem e_X11_isHalves {X : Cx} {d kc ns : Nat} {M : Mem} {Q : Option AV → Mem → Prop} {a1 : Int32} {a2 : Int32} {a3 : Int32} (h : WA X d kc ns m_X11_isHalves 0 [some (vR 75), some (vI a1), some (vI a2), some (vI a3), none, none, none, none] [] M Q) : Cl X d kc ns m_X11_isHalves [vR 75, vI a1, vI a2, vI a3] M Q := Cl.intro (k := 4) (by decide) rfl rfl h

-- TwoPencilsModel.canPair(II)Z
theorem b_X11_canPair_0 {X : Cx} {d kc ns : Nat} {M : Mem} {Q : Option AV → Mem → Prop} {l1 : Int32} {l2 : Int32} (hS : RfS M) (hd : 1 ≤ d)
    (h : Cl X (d - 1) 0 0 m_J6_numberOfTrailingZeros_0f7a4 [vI (l1 ^^^ (-1))] M (fun r M1 => ∃ x1 : Int32, r = some (vI x1) ∧ Ext M M1 ∧ ((x1 < l2 → ∀ x2 : Int32, x2 = (x1 + (nI 1)) → WA X d kc ns m_X11_canPair 19 [some (vR 75), some (vI l1), some (vI l2), some (vI x1), some (vI x2), none] [] M1 Q) ∧ (¬ x1 < l2 → Q (some (vI (nI 1))) M1)))) :
    WA X d kc ns m_X11_canPair 0 [some (vR 75), some (vI l1), some (vI l2), none, none, none] [] M Q := by
  refine x_iload_n (tk K_X11_canPair 0 rfl) rfl rfl ?_
  refine x_iconst (tk K_X11_canPair 1 rfl) ic_m1 ?_
  refine x_ixor (tk K_X11_canPair 2 rfl) ?_
  refine x_callS0 (As := [vI _]) (S := []) (tk K_X11_canPair 3 rfl) mk_X11_343 mo_J6_numberOfTrailingZeros_0f7a4 rfl rfl (Nat.le_of_ble_eq_true rfl) hd h (fun r M1 hq => ?_)
  obtain ⟨x1, rfl, hE, h⟩ := hq
  have hT0 := RfS.ext hS hE
  refine x_istore_n (L' := [some (vR _), some (vI _), some (vI _), some (vI _), none, none]) (tk K_X11_canPair 4 rfl) rfl rfl (Nat.le_of_ble_eq_true rfl) rfl ?_
  refine x_iload_n (tk K_X11_canPair 5 rfl) rfl rfl ?_
  refine x_iload_n (tk K_X11_canPair 6 rfl) rfl rfl ?_
  refine x_icmp_lt (t := 14) (tk K_X11_canPair 7 rfl) rfl (fun hc => ?_) (fun hc => ?_)
  · have h := h.1 hc
    refine x_iload_n (tk K_X11_canPair 10 rfl) rfl rfl ?_
    refine x_iconst (tk K_X11_canPair 11 rfl) ic_1 ?_
    refine x_iadd (tk K_X11_canPair 12 rfl) ?_
    have h := h _ rfl
    refine x_istore (L' := [some (vR _), some (vI _), some (vI _), some (vI _), some (vI _), none]) (tk K_X11_canPair 13 rfl) rfl (Nat.le_of_ble_eq_true rfl) rfl ?_
    exact h
  · have h := h.2 hc
    refine x_iconst (tk K_X11_canPair 8 rfl) ic_1 ?_
    exact x_ireturn (tk K_X11_canPair 9 rfl) rfl (fitZ (Or.inr rfl)).1 h

theorem b_X11_canPair_19 {X : Cx} {d kc ns : Nat} {M : Mem} {Q : Option AV → Mem → Prop} {l1 : Int32} {l2 : Int32} {l3 : Int32} {l4 : Int32} (hS : RfS M)
    (h : ((l2 ≤ l4 → Q (some (vI (nI 0))) M) ∧ (¬ l2 ≤ l4 → ((¬ ((shr l1 l4) &&& (nI 1)) = nI 0 → WA X d kc ns m_X11_canPair 60 [some (vR 75), some (vI l1), some (vI l2), some (vI l3), some (vI l4), none] [] M Q) ∧ (((shr l1 l4) &&& (nI 1)) = nI 0 → vp_in l3 8 ∧ vp_in l4 8 ∧ vp_in ((mI M 93 (ix l3)) ||| (mI M 93 (ix l4))) 512 ∧ ((¬ (mI M 87 (ix ((mI M 93 (ix l3)) ||| (mI M 93 (ix l4))))) = nI 0 → WA X d kc ns m_X11_canPair 60 [some (vR 75), some (vI l1), some (vI l2), some (vI l3), some (vI l4), none] [] M Q) ∧ ((mI M 87 (ix ((mI M 93 (ix l3)) ||| (mI M 93 (ix l4))))) = nI 0 → WA X d kc ns m_X11_canPair 61 [some (vR 75), some (vI l1), some (vI l2), some (vI l3), some (vI l4), none] [vI (nI 1)] M Q))))))) :
    WA X d kc ns m_X11_canPair 19 [some (vR 75), some (vI l1), some (vI l2), some (vI l3), some (vI l4), none] [] M Q := by
  refine x_iload (tk K_X11_canPair 14 rfl) rfl ?_
  refine x_iload_n (tk K_X11_canPair 15 rfl) rfl rfl ?_
  refine x_icmp_ge (t := 94) (tk K_X11_canPair 16 rfl) rfl (fun hc => ?_) (fun hc => ?_)
  · have h := h.1 hc
    refine x_iconst (tk K_X11_canPair 59 rfl) ic_0 ?_
    exact x_ireturn (tk K_X11_canPair 60 rfl) rfl (fitZ (Or.inl rfl)).1 h
  · have h := h.2 hc
    refine x_iload_n (tk K_X11_canPair 17 rfl) rfl rfl ?_
    refine x_iload (tk K_X11_canPair 18 rfl) rfl ?_
    refine x_ishr (tk K_X11_canPair 19 rfl) ?_
    refine x_iconst (tk K_X11_canPair 20 rfl) ic_1 ?_
    refine x_iand (tk K_X11_canPair 21 rfl) ?_
    refine x_if_ne (t := 60) (tk K_X11_canPair 22 rfl) rfl (fun hc => ?_) (fun hc => ?_)
    · have h := h.1 hc
      exact h
    · have h := h.2 hc
      refine x_aload_n (tk K_X11_canPair 23 rfl) rfl rfl ?_
      refine x_getRc (tk K_X11_canPair 24 rfl) f_X11_43 rfl (RfS.o hS) (RfS.r17 hS) ?_
      refine x_aload_n (tk K_X11_canPair 25 rfl) rfl rfl ?_
      refine x_getRc (tk K_X11_canPair 26 rfl) f_X11_62 rfl (RfS.o hS) (RfS.r34 hS) ?_
      refine x_iload_n (tk K_X11_canPair 27 rfl) rfl rfl ?_
      have hi := h.1
      have h := h.2
      refine x_iald (tk K_X11_canPair 28 rfl) (RfS.k34 hS) hi ?_
      refine x_aload_n (tk K_X11_canPair 29 rfl) rfl rfl ?_
      refine x_getRc (tk K_X11_canPair 30 rfl) f_X11_62 rfl (RfS.o hS) (RfS.r34 hS) ?_
      refine x_iload (tk K_X11_canPair 31 rfl) rfl ?_
      have hi := h.1
      have h := h.2
      refine x_iald (tk K_X11_canPair 32 rfl) (RfS.k34 hS) hi ?_
      refine x_ior (tk K_X11_canPair 33 rfl) ?_
      have hi := h.1
      have h := h.2
      refine x_iald (tk K_X11_canPair 34 rfl) (RfS.k17 hS) hi ?_
      refine x_if_ne (t := 60) (tk K_X11_canPair 35 rfl) rfl (fun hc => ?_) (fun hc => ?_)
      · have h := h.1 hc
        exact h
      · have h := h.2 hc
        refine x_iconst (tk K_X11_canPair 36 rfl) ic_1 ?_
        refine x_goto (t := 61) (tk K_X11_canPair 37 rfl) rfl ?_
        exact h

theorem b_X11_canPair_60 {X : Cx} {d kc ns : Nat} {M : Mem} {Q : Option AV → Mem → Prop} {l1 : Int32} {l2 : Int32} {l3 : Int32} {l4 : Int32} (hS : RfS M)
    (h : WA X d kc ns m_X11_canPair 61 [some (vR 75), some (vI l1), some (vI l2), some (vI l3), some (vI l4), none] [vI (nI 0)] M Q) :
    WA X d kc ns m_X11_canPair 60 [some (vR 75), some (vI l1), some (vI l2), some (vI l3), some (vI l4), none] [] M Q := by
  refine x_iconst (tk K_X11_canPair 38 rfl) ic_0 ?_
  exact h

theorem b_X11_canPair_61 {X : Cx} {d kc ns : Nat} {M : Mem} {Q : Option AV → Mem → Prop} {l1 : Int32} {l2 : Int32} {l3 : Int32} {l4 : Int32} {s0 : Int32} (hS : RfS M) (hd : 1 ≤ d)
    (h : ((s0 = nI 0 → WA X d kc ns m_X11_canPair 19 [some (vR 75), some (vI l1), some (vI l2), some (vI l3), some (vI (l4 + (nI 1))), none] [] M Q) ∧ (¬ s0 = nI 0 → Cl X (d - 1) 0 0 m_X11_canPair [vR 75, vI ((l1 ||| (shl (nI 1) l3)) ||| (shl (nI 1) l4)), vI l2] M (fun r M1 => ∃ x1 : Int32, r = some (vI x1) ∧ Ext M M1 ∧ ((x1 = nI 0 → WA X d kc ns m_X11_canPair 19 [some (vR 75), some (vI l1), some (vI l2), some (vI l3), some (vI (l4 + (nI 1))), none] [] M1 Q) ∧ (¬ x1 = nI 0 → Q (some (vI (nI 1))) M1)))))) :
    WA X d kc ns m_X11_canPair 61 [some (vR 75), some (vI l1), some (vI l2), some (vI l3), some (vI l4), none] [vI s0] M Q := by
  refine x_istore (L' := [some (vR _), some (vI _), some (vI _), some (vI _), some (vI _), some (vI _)]) (tk K_X11_canPair 39 rfl) rfl (Nat.le_of_ble_eq_true rfl) rfl ?_
  refine x_iload (tk K_X11_canPair 40 rfl) rfl ?_
  refine x_if_eq (t := 88) (tk K_X11_canPair 41 rfl) rfl (fun hc => ?_) (fun hc => ?_)
  · have h := h.1 hc
    refine x_iincW (L' := [some (vR _), some (vI _), some (vI _), some (vI _), some (vI _), some (vI _)]) (tk K_X11_canPair 57 rfl) rfl ic_1 rfl (Nat.le_of_ble_eq_true rfl) rfl ?_
    refine x_goto (t := 19) (tk K_X11_canPair 58 rfl) rfl ?_
    refine x_msk [true, true, true, true, true, false] ?_
    exact h
  · have h := h.2 hc
    refine x_aload_n (tk K_X11_canPair 42 rfl) rfl rfl ?_
    refine x_iload_n (tk K_X11_canPair 43 rfl) rfl rfl ?_
    refine x_iconst (tk K_X11_canPair 44 rfl) ic_1 ?_
    refine x_iload_n (tk K_X11_canPair 45 rfl) rfl rfl ?_
    refine x_ishl (tk K_X11_canPair 46 rfl) ?_
    refine x_ior (tk K_X11_canPair 47 rfl) ?_
    refine x_iconst (tk K_X11_canPair 48 rfl) ic_1 ?_
    refine x_iload (tk K_X11_canPair 49 rfl) rfl ?_
    refine x_ishl (tk K_X11_canPair 50 rfl) ?_
    refine x_ior (tk K_X11_canPair 51 rfl) ?_
    refine x_iload_n (tk K_X11_canPair 52 rfl) rfl rfl ?_
    refine x_callV0 (As := [vI _, vI _]) (S := []) (tk K_X11_canPair 53 rfl) mk_X11_340 mo_X11_canPair (RfS.o hS) rfl rfl (Nat.le_of_ble_eq_true rfl) hd h (fun r M1 hq => ?_)
    obtain ⟨x1, rfl, hE, h⟩ := hq
    have hT0 := RfS.ext hS hE
    refine x_if_eq (t := 88) (tk K_X11_canPair 54 rfl) rfl (fun hc => ?_) (fun hc => ?_)
    · have h := h.1 hc
      refine x_iincW (L' := [some (vR _), some (vI _), some (vI _), some (vI _), some (vI _), some (vI _)]) (tk K_X11_canPair 57 rfl) rfl ic_1 rfl (Nat.le_of_ble_eq_true rfl) rfl ?_
      refine x_goto (t := 19) (tk K_X11_canPair 58 rfl) rfl ?_
      refine x_msk [true, true, true, true, true, false] ?_
      exact h
    · have h := h.2 hc
      refine x_iconst (tk K_X11_canPair 55 rfl) ic_1 ?_
      exact x_ireturn (tk K_X11_canPair 56 rfl) rfl (fitZ (Or.inr rfl)).1 h

theorem e_X11_canPair {X : Cx} {d kc ns : Nat} {M : Mem} {Q : Option AV → Mem → Prop} {a1 : Int32} {a2 : Int32} (h : WA X d kc ns m_X11_canPair 0 [some (vR 75), some (vI a1), some (vI a2), none, none, none] [] M Q) : Cl X d kc ns m_X11_canPair [vR 75, vI a1, vI a2] M Q := Cl.intro (k := 3) (by decide) rfl rfl h

-- TwoPencilsModel.joins(I)Z
theorem b_X11_joins_0 {X : Cx} {d kc ns : Nat} {M : Mem} {Q : Option AV → Mem → Prop} {l1 : Int32} (hS : RfS M)
    (h : WA X d kc ns m_X11_joins 2 [some (vR 75), some (vI l1), some (vI (nI 0)), none, none, none, none] [] M Q) :
    WA X d kc ns m_X11_joins 0 [some (vR 75), some (vI l1), none, none, none, none, none] [] M Q := by
  refine x_iconst (tk K_X11_joins 0 rfl) ic_0 ?_
  refine x_istore_n (L' := [some (vR _), some (vI _), some (vI _), none, none, none, none]) (tk K_X11_joins 1 rfl) rfl rfl (Nat.le_of_ble_eq_true rfl) rfl ?_
  exact h

theorem b_X11_joins_2 {X : Cx} {d kc ns : Nat} {M : Mem} {Q : Option AV → Mem → Prop} {l1 : Int32} {l2 : Int32} (hS : RfS M) (hd : 1 ≤ d)
    (h : (((mI M 75 27) ≤ l2 → Q (some (vI (nI 1))) M) ∧ (¬ (mI M 75 27) ≤ l2 → Cl X (d - 1) 0 0 m_X11_seatOf [vR 75, vI l1, vI (mI M 75 26), vI l2] M (fun r M1 => ∃ x1 : Int32, r = some (vI x1) ∧ Ext M M1 ∧ WA X d kc ns m_X11_joins 27 [some (vR 75), some (vI l1), some (vI l2), some (vI x1), some (vI (nI 0)), some (vI (nI 0)), none] [] M1 Q)))) :
    WA X d kc ns m_X11_joins 2 [some (vR 75), some (vI l1), some (vI l2), none, none, none, none] [] M Q := by
  refine x_iload_n (tk K_X11_joins 2 rfl) rfl rfl ?_
  refine x_aload_n (tk K_X11_joins 3 rfl) rfl rfl ?_
  refine x_getI (tk K_X11_joins 4 rfl) f_X11_285 rfl (RfS.o hS) ?_
  refine x_icmp_ge (t := 109) (tk K_X11_joins 5 rfl) rfl (fun hc => ?_) (fun hc => ?_)
  · have h := h.1 hc
    refine x_iconst (tk K_X11_joins 62 rfl) ic_1 ?_
    exact x_ireturn (tk K_X11_joins 63 rfl) rfl (fitZ (Or.inr rfl)).1 h
  · have h := h.2 hc
    refine x_aload_n (tk K_X11_joins 6 rfl) rfl rfl ?_
    refine x_iload_n (tk K_X11_joins 7 rfl) rfl rfl ?_
    refine x_aload_n (tk K_X11_joins 8 rfl) rfl rfl ?_
    refine x_getI (tk K_X11_joins 9 rfl) f_X11_282 rfl (RfS.o hS) ?_
    refine x_iload_n (tk K_X11_joins 10 rfl) rfl rfl ?_
    refine x_callV0 (As := [vI _, vI _, vI _]) (S := []) (tk K_X11_joins 11 rfl) mk_X11_199 mo_X11_seatOf (RfS.o hS) rfl rfl (Nat.le_of_ble_eq_true rfl) hd h (fun r M1 hq => ?_)
    obtain ⟨x1, rfl, hE, h⟩ := hq
    have hT0 := RfS.ext hS hE
    refine x_istore_n (L' := [some (vR _), some (vI _), some (vI _), some (vI _), none, none, none]) (tk K_X11_joins 12 rfl) rfl rfl (Nat.le_of_ble_eq_true rfl) rfl ?_
    refine x_iconst (tk K_X11_joins 13 rfl) ic_0 ?_
    refine x_istore (L' := [some (vR _), some (vI _), some (vI _), some (vI _), some (vI _), none, none]) (tk K_X11_joins 14 rfl) rfl (Nat.le_of_ble_eq_true rfl) rfl ?_
    refine x_iconst (tk K_X11_joins 15 rfl) ic_0 ?_
    refine x_istore (L' := [some (vR _), some (vI _), some (vI _), some (vI _), some (vI _), some (vI _), none]) (tk K_X11_joins 16 rfl) rfl (Nat.le_of_ble_eq_true rfl) rfl ?_
    exact h

theorem b_X11_joins_27 {X : Cx} {d kc ns : Nat} {M : Mem} {Q : Option AV → Mem → Prop} {l1 : Int32} {l2 : Int32} {l3 : Int32} {l4 : Int32} {l5 : Int32} (hS : RfS M) (hd : 1 ≤ d)
    (h : ((((nI 2) * (mI M 75 27)) ≤ l5 → ((l4 = (nI 2) → WA X d kc ns m_X11_joins 2 [some (vR 75), some (vI l1), some (vI (l2 + (nI 1))), none, none, none, none] [] M Q) ∧ (¬ l4 = (nI 2) → Q (some (vI (nI 0))) M))) ∧ (¬ ((nI 2) * (mI M 75 27)) ≤ l5 → Cl X (d - 1) 0 0 m_X11_halfOf [vR 75, vI (mI M 75 30), vI (mI M 75 26), vI l5] M (fun r M1 => ∃ x1 : Int32, r = some (vI x1) ∧ Ext M M1 ∧ (((x1 &&& l3) = nI 0 → WA X d kc ns m_X11_joins 72 [some (vR 75), some (vI l1), some (vI l2), some (vI l3), some (vI l4), some (vI l5), some (vI x1)] [] M1 Q) ∧ (¬ (x1 &&& l3) = nI 0 → (((x1 &&& (l3 ^^^ (-1))) = nI 0 → WA X d kc ns m_X11_joins 72 [some (vR 75), some (vI l1), some (vI l2), some (vI l3), some (vI l4), some (vI l5), some (vI x1)] [] M1 Q) ∧ (¬ (x1 &&& (l3 ^^^ (-1))) = nI 0 → Q (some (vI (nI 0))) M1)))))))) :
    WA X d kc ns m_X11_joins 27 [some (vR 75), some (vI l1), some (vI l2), some (vI l3), some (vI l4), some (vI l5), none] [] M Q := by
  refine x_iload (tk K_X11_joins 17 rfl) rfl ?_
  refine x_iconst (tk K_X11_joins 18 rfl) ic_2 ?_
  refine x_aload_n (tk K_X11_joins 19 rfl) rfl rfl ?_
  refine x_getI (tk K_X11_joins 20 rfl) f_X11_285 rfl (RfS.o hS) ?_
  refine x_imul (tk K_X11_joins 21 rfl) ?_
  refine x_icmp_ge (t := 95) (tk K_X11_joins 22 rfl) rfl (fun hc => ?_) (fun hc => ?_)
  · have h := h.1 hc
    refine x_iload (tk K_X11_joins 55 rfl) rfl ?_
    refine x_iconst (tk K_X11_joins 56 rfl) ic_2 ?_
    refine x_icmp_eq (t := 103) (tk K_X11_joins 57 rfl) rfl (fun hc => ?_) (fun hc => ?_)
    · have h := h.1 hc
      refine x_iincW (L' := [some (vR _), some (vI _), some (vI _), some (vI _), some (vI _), some (vI _), none]) (tk K_X11_joins 60 rfl) rfl ic_1 rfl (Nat.le_of_ble_eq_true rfl) rfl ?_
      refine x_goto (t := 2) (tk K_X11_joins 61 rfl) rfl ?_
      refine x_msk [true, true, true, false, false, false, false] ?_
      exact h
    · have h := h.2 hc
      refine x_iconst (tk K_X11_joins 58 rfl) ic_0 ?_
      exact x_ireturn (tk K_X11_joins 59 rfl) rfl (fitZ (Or.inl rfl)).1 h
  · have h := h.2 hc
    refine x_aload_n (tk K_X11_joins 23 rfl) rfl rfl ?_
    refine x_aload_n (tk K_X11_joins 24 rfl) rfl rfl ?_
    refine x_getI (tk K_X11_joins 25 rfl) f_X11_318 rfl (RfS.o hS) ?_
    refine x_aload_n (tk K_X11_joins 26 rfl) rfl rfl ?_
    refine x_getI (tk K_X11_joins 27 rfl) f_X11_282 rfl (RfS.o hS) ?_
    refine x_iload (tk K_X11_joins 28 rfl) rfl ?_
    refine x_callV0 (As := [vI _, vI _, vI _]) (S := []) (tk K_X11_joins 29 rfl) mk_X11_334 mo_X11_halfOf (RfS.o hS) rfl rfl (Nat.le_of_ble_eq_true rfl) hd h (fun r M1 hq => ?_)
    obtain ⟨x1, rfl, hE, h⟩ := hq
    have hT0 := RfS.ext hS hE
    refine x_istore (L' := [some (vR _), some (vI _), some (vI _), some (vI _), some (vI _), some (vI _), some (vI _)]) (tk K_X11_joins 30 rfl) rfl (Nat.le_of_ble_eq_true rfl) rfl ?_
    refine x_iload (tk K_X11_joins 31 rfl) rfl ?_
    refine x_iload_n (tk K_X11_joins 32 rfl) rfl rfl ?_
    refine x_iand (tk K_X11_joins 33 rfl) ?_
    refine x_if_eq (t := 72) (tk K_X11_joins 34 rfl) rfl (fun hc => ?_) (fun hc => ?_)
    · have h := h.1 hc
      exact h
    · have h := h.2 hc
      refine x_iload (tk K_X11_joins 35 rfl) rfl ?_
      refine x_iload_n (tk K_X11_joins 36 rfl) rfl rfl ?_
      refine x_iconst (tk K_X11_joins 37 rfl) ic_m1 ?_
      refine x_ixor (tk K_X11_joins 38 rfl) ?_
      refine x_iand (tk K_X11_joins 39 rfl) ?_
      refine x_if_eq (t := 72) (tk K_X11_joins 40 rfl) rfl (fun hc => ?_) (fun hc => ?_)
      · have h := h.1 hc
        exact h
      · have h := h.2 hc
        refine x_iconst (tk K_X11_joins 41 rfl) ic_0 ?_
        exact x_ireturn (tk K_X11_joins 42 rfl) rfl (fitZ (Or.inl rfl)).1 h

theorem b_X11_joins_72 {X : Cx} {d kc ns : Nat} {M : Mem} {Q : Option AV → Mem → Prop} {l1 : Int32} {l2 : Int32} {l3 : Int32} {l4 : Int32} {l5 : Int32} {l6 : Int32} (hS : RfS M)
    (h : (((l6 &&& l3) = nI 0 → ∀ x1 : Int32, x1 = (l4 + (nI 0)) → WA X d kc ns m_X11_joins 27 [some (vR 75), some (vI l1), some (vI l2), some (vI l3), some (vI x1), some (vI (l5 + (nI 1))), none] [] M Q) ∧ (¬ (l6 &&& l3) = nI 0 → ∀ x2 : Int32, x2 = (l4 + (nI 1)) → WA X d kc ns m_X11_joins 27 [some (vR 75), some (vI l1), some (vI l2), some (vI l3), some (vI x2), some (vI (l5 + (nI 1))), none] [] M Q))) :
    WA X d kc ns m_X11_joins 72 [some (vR 75), some (vI l1), some (vI l2), some (vI l3), some (vI l4), some (vI l5), some (vI l6)] [] M Q := by
  refine x_iload (tk K_X11_joins 43 rfl) rfl ?_
  refine x_iload (tk K_X11_joins 44 rfl) rfl ?_
  refine x_iload_n (tk K_X11_joins 45 rfl) rfl rfl ?_
  refine x_iand (tk K_X11_joins 46 rfl) ?_
  refine x_if_eq (t := 85) (tk K_X11_joins 47 rfl) rfl (fun hc => ?_) (fun hc => ?_)
  · have h := h.1 hc
    refine x_iconst (tk K_X11_joins 50 rfl) ic_0 ?_
    refine x_iadd (tk K_X11_joins 51 rfl) ?_
    have h := h _ rfl
    refine x_istore (L' := [some (vR _), some (vI _), some (vI _), some (vI _), some (vI _), some (vI _), some (vI _)]) (tk K_X11_joins 52 rfl) rfl (Nat.le_of_ble_eq_true rfl) rfl ?_
    refine x_iincW (L' := [some (vR _), some (vI _), some (vI _), some (vI _), some (vI _), some (vI _), some (vI _)]) (tk K_X11_joins 53 rfl) rfl ic_1 rfl (Nat.le_of_ble_eq_true rfl) rfl ?_
    refine x_goto (t := 27) (tk K_X11_joins 54 rfl) rfl ?_
    refine x_msk [true, true, true, true, true, true, false] ?_
    exact h
  · have h := h.2 hc
    refine x_iconst (tk K_X11_joins 48 rfl) ic_1 ?_
    refine x_goto (t := 86) (tk K_X11_joins 49 rfl) rfl ?_
    refine x_iadd (tk K_X11_joins 51 rfl) ?_
    have h := h _ rfl
    refine x_istore (L' := [some (vR _), some (vI _), some (vI _), some (vI _), some (vI _), some (vI _), some (vI _)]) (tk K_X11_joins 52 rfl) rfl (Nat.le_of_ble_eq_true rfl) rfl ?_
    refine x_iincW (L' := [some (vR _), some (vI _), some (vI _), some (vI _), some (vI _), some (vI _), some (vI _)]) (tk K_X11_joins 53 rfl) rfl ic_1 rfl (Nat.le_of_ble_eq_true rfl) rfl ?_
    refine x_goto (t := 27) (tk K_X11_joins 54 rfl) rfl ?_
    refine x_msk [true, true, true, true, true, true, false] ?_
    exact h

theorem e_X11_joins {X : Cx} {d kc ns : Nat} {M : Mem} {Q : Option AV → Mem → Prop} {a1 : Int32} (h : WA X d kc ns m_X11_joins 0 [some (vR 75), some (vI a1), none, none, none, none, none] [] M Q) : Cl X d kc ns m_X11_joins [vR 75, vI a1] M Q := Cl.intro (k := 5) (by decide) rfl rfl h

-- TwoPencilsModel.seekHalves(IIIII)V
theorem b_X11_seekHalves_0 {X : Cx} {d kc ns : Nat} {M : Mem} {Q : Option AV → Mem → Prop} {l1 : Int32} {l2 : Int32} {l3 : Int32} {l4 : Int32} {l5 : Int32} (hS : RfS M)
    (h : ((¬ (mI M 75 35) = nI 0 → WA X d kc ns m_X11_seekHalves 15 [some (vR 75), some (vI l1), some (vI l2), some (vI l3), some (vI l4), some (vI l5), none] [] M Q) ∧ ((mI M 75 35) = nI 0 → (((mI M 75 42) = nI 0 → WA X d kc ns m_X11_seekHalves 15 [some (vR 75), some (vI l1), some (vI l2), some (vI l3), some (vI l4), some (vI l5), none] [] M Q) ∧ (¬ (mI M 75 42) = nI 0 → Q none M))))) :
    WA X d kc ns m_X11_seekHalves 0 [some (vR 75), some (vI l1), some (vI l2), some (vI l3), some (vI l4), some (vI l5), none] [] M Q := by
  refine x_aload_n (tk K_X11_seekHalves 0 rfl) rfl rfl ?_
  refine x_getI (tk K_X11_seekHalves 1 rfl) f_X11_346 rfl (RfS.o hS) ?_
  refine x_if_ne (t := 15) (tk K_X11_seekHalves 2 rfl) rfl (fun hc => ?_) (fun hc => ?_)
  · have h := h.1 hc
    exact h
  · have h := h.2 hc
    refine x_aload_n (tk K_X11_seekHalves 3 rfl) rfl rfl ?_
    refine x_getI (tk K_X11_seekHalves 4 rfl) f_X11_349 rfl (RfS.o hS) ?_
    refine x_if_eq (t := 15) (tk K_X11_seekHalves 5 rfl) rfl (fun hc => ?_) (fun hc => ?_)
    · have h := h.1 hc
      exact h
    · have h := h.2 hc
      exact x_return (tk K_X11_seekHalves 6 rfl) rfl h

theorem b_X11_seekHalves_15 {X : Cx} {d kc ns : Nat} {M : Mem} {Q : Option AV → Mem → Prop} {l1 : Int32} {l2 : Int32} {l3 : Int32} {l4 : Int32} {l5 : Int32} (hS : RfS M) (hd : 1 ≤ d)
    (h : vp_in (mI M 75 19) 7 ∧ ((¬ l1 = (mI M 77 (ix (mI M 75 19))) → ((¬ ((shr l2 l1) &&& (nI 1)) = nI 0 → WA X d kc ns m_X11_seekHalves 70 [some (vR 75), some (vI l1), some (vI l2), some (vI l3), some (vI l4), some (vI l5), some (vI (nI 0))] [] M Q) ∧ (((shr l2 l1) &&& (nI 1)) = nI 0 → Cl X (d - 1) 0 0 m_X11_seekHalves [vR 75, vI (l1 + (nI 1)), vI l2, vI l3, vI l4, vI ((nI 8) * l5)] M (fun r M1 => r = none ∧ Ext M M1 ∧ Q none M1)))) ∧ (l1 = (mI M 77 (ix (mI M 75 19))) → ((¬ l4 = l3 → Q none M) ∧ (l4 = l3 → Cl X (d - 1) 0 0 m_X11_weighHalves [vR 75, vI l5, vI l3] M (fun r M2 => r = none ∧ Ext M M2 ∧ Q none M2)))))) :
    WA X d kc ns m_X11_seekHalves 15 [some (vR 75), some (vI l1), some (vI l2), some (vI l3), some (vI l4), some (vI l5), none] [] M Q := by
  refine x_iload_n (tk K_X11_seekHalves 7 rfl) rfl rfl ?_
  refine x_aload_n (tk K_X11_seekHalves 8 rfl) rfl rfl ?_
  refine x_getRc (tk K_X11_seekHalves 9 rfl) f_X11_13 rfl (RfS.o hS) (RfS.r5 hS) ?_
  refine x_aload_n (tk K_X11_seekHalves 10 rfl) rfl rfl ?_
  refine x_getI (tk K_X11_seekHalves 11 rfl) f_X11_184 rfl (RfS.o hS) ?_
  have hi := h.1
  have h := h.2
  refine x_iald (tk K_X11_seekHalves 12 rfl) (RfS.k5 hS) hi ?_
  refine x_icmp_ne (t := 42) (tk K_X11_seekHalves 13 rfl) rfl (fun hc => ?_) (fun hc => ?_)
  · have h := h.1 hc
    refine x_iload_n (tk K_X11_seekHalves 22 rfl) rfl rfl ?_
    refine x_iload_n (tk K_X11_seekHalves 23 rfl) rfl rfl ?_
    refine x_ishr (tk K_X11_seekHalves 24 rfl) ?_
    refine x_iconst (tk K_X11_seekHalves 25 rfl) ic_1 ?_
    refine x_iand (tk K_X11_seekHalves 26 rfl) ?_
    refine x_if_ne (t := 67) (tk K_X11_seekHalves 27 rfl) rfl (fun hc => ?_) (fun hc => ?_)
    · have h := h.1 hc
      refine x_iconst (tk K_X11_seekHalves 40 rfl) ic_0 ?_
      refine x_istore (L' := [some (vR _), some (vI _), some (vI _), some (vI _), some (vI _), some (vI _), some (vI _)]) (tk K_X11_seekHalves 41 rfl) rfl (Nat.le_of_ble_eq_true rfl) rfl ?_
      exact h
    · have h := h.2 hc
      refine x_aload_n (tk K_X11_seekHalves 28 rfl) rfl rfl ?_
      refine x_iload_n (tk K_X11_seekHalves 29 rfl) rfl rfl ?_
      refine x_iconst (tk K_X11_seekHalves 30 rfl) ic_1 ?_
      refine x_iadd (tk K_X11_seekHalves 31 rfl) ?_
      refine x_iload_n (tk K_X11_seekHalves 32 rfl) rfl rfl ?_
      refine x_iload_n (tk K_X11_seekHalves 33 rfl) rfl rfl ?_
      refine x_iload (tk K_X11_seekHalves 34 rfl) rfl ?_
      refine x_bipush (tk K_X11_seekHalves 35 rfl) bp_8 ?_
      refine x_iload (tk K_X11_seekHalves 36 rfl) rfl ?_
      refine x_imul (tk K_X11_seekHalves 37 rfl) ?_
      refine x_callV0 (As := [vI _, vI _, vI _, vI _, vI _]) (S := []) (tk K_X11_seekHalves 38 rfl) mk_X11_356 mo_X11_seekHalves (RfS.o hS) rfl rfl (Nat.le_of_ble_eq_true rfl) hd h (fun r M1 hq => ?_)
      obtain ⟨rfl, hE, h⟩ := hq
      have hT0 := RfS.ext hS hE
      have hT1 := hE.1 _ _ _ (RfS.k5 hS)
      exact x_return (tk K_X11_seekHalves 39 rfl) rfl h
  · have h := h.2 hc
    refine x_iload (tk K_X11_seekHalves 14 rfl) rfl ?_
    refine x_iload_n (tk K_X11_seekHalves 15 rfl) rfl rfl ?_
    refine x_icmp_ne (t := 41) (tk K_X11_seekHalves 16 rfl) rfl (fun hc => ?_) (fun hc => ?_)
    · have h := h.1 hc
      exact x_return (tk K_X11_seekHalves 21 rfl) rfl h
    · have h := h.2 hc
      refine x_aload_n (tk K_X11_seekHalves 17 rfl) rfl rfl ?_
      refine x_iload (tk K_X11_seekHalves 18 rfl) rfl ?_
      refine x_iload_n (tk K_X11_seekHalves 19 rfl) rfl rfl ?_
      refine x_callV0 (As := [vI _, vI _]) (S := []) (tk K_X11_seekHalves 20 rfl) mk_X11_353 mo_X11_weighHalves (RfS.o hS) rfl rfl (Nat.le_of_ble_eq_true rfl) hd h (fun r M2 hq => ?_)
      obtain ⟨rfl, hE, h⟩ := hq
      have hT2 := RfS.ext hS hE
      have hT3 := hE.1 _ _ _ (RfS.k5 hS)
      exact x_return (tk K_X11_seekHalves 21 rfl) rfl h

theorem b_X11_seekHalves_70 {X : Cx} {d kc ns : Nat} {M : Mem} {Q : Option AV → Mem → Prop} {l1 : Int32} {l2 : Int32} {l3 : Int32} {l4 : Int32} {l5 : Int32} {l6 : Int32} (hS : RfS M) (hd : 1 ≤ d)
    (h : ((l4 < l6 → Q none M) ∧ (¬ l4 < l6 → ((l3 ≤ l6 → Q none M) ∧ (¬ l3 ≤ l6 → vp_in l6 8 ∧ vp_in l6 8 ∧ ∀ M1 : Mem, M1 = sI M 93 (ix l6) ((mI M 93 (ix l6)) ||| (shl (nI 1) l1)) → Cl X (d - 1) 0 0 m_X11_seekHalves [vR 75, vI (l1 + (nI 1)), vI l2, vI l3, vI (maxI l4 (l6 + (nI 1))), vI (((nI 8) * l5) + l6)] M1 (fun r M2 => r = none ∧ Ext M1 M2 ∧ vp_in l6 8 ∧ vp_in l6 8 ∧ ∀ M3 : Mem, M3 = sI M2 93 (ix l6) ((mI M2 93 (ix l6)) &&& ((shl (nI 1) l1) ^^^ (-1))) → WA X d kc ns m_X11_seekHalves 70 [some (vR 75), some (vI l1), some (vI l2), some (vI l3), some (vI l4), some (vI l5), some (vI (l6 + (nI 1)))] [] M3 Q)))))) :
    WA X d kc ns m_X11_seekHalves 70 [some (vR 75), some (vI l1), some (vI l2), some (vI l3), some (vI l4), some (vI l5), some (vI l6)] [] M Q := by
  refine x_iload (tk K_X11_seekHalves 42 rfl) rfl ?_
  refine x_iload (tk K_X11_seekHalves 43 rfl) rfl ?_
  refine x_icmp_gt (t := 143) (tk K_X11_seekHalves 44 rfl) rfl (fun hc => ?_) (fun hc => ?_)
  · have h := h.1 hc
    exact x_return (tk K_X11_seekHalves 89 rfl) rfl h
  · have h := h.2 hc
    refine x_iload (tk K_X11_seekHalves 45 rfl) rfl ?_
    refine x_iload_n (tk K_X11_seekHalves 46 rfl) rfl rfl ?_
    refine x_icmp_ge (t := 143) (tk K_X11_seekHalves 47 rfl) rfl (fun hc => ?_) (fun hc => ?_)
    · have h := h.1 hc
      exact x_return (tk K_X11_seekHalves 89 rfl) rfl h
    · have h := h.2 hc
      refine x_aload_n (tk K_X11_seekHalves 48 rfl) rfl rfl ?_
      refine x_getRc (tk K_X11_seekHalves 49 rfl) f_X11_62 rfl (RfS.o hS) (RfS.r34 hS) ?_
      refine x_iload (tk K_X11_seekHalves 50 rfl) rfl ?_
      refine x_dup2 (tk K_X11_seekHalves 51 rfl) rfl rfl ?_
      have hi := h.1
      have h := h.2
      refine x_iald (tk K_X11_seekHalves 52 rfl) (RfS.k34 hS) hi ?_
      refine x_iconst (tk K_X11_seekHalves 53 rfl) ic_1 ?_
      refine x_iload_n (tk K_X11_seekHalves 54 rfl) rfl rfl ?_
      refine x_ishl (tk K_X11_seekHalves 55 rfl) ?_
      refine x_ior (tk K_X11_seekHalves 56 rfl) ?_
      have hi := h.1
      have h := h.2
      have h := h _ rfl
      refine x_iast (tk K_X11_seekHalves 57 rfl) (RfS.k34 hS) hi ?_
      refine x_aload_n (tk K_X11_seekHalves 58 rfl) rfl rfl ?_
      refine x_iload_n (tk K_X11_seekHalves 59 rfl) rfl rfl ?_
      refine x_iconst (tk K_X11_seekHalves 60 rfl) ic_1 ?_
      refine x_iadd (tk K_X11_seekHalves 61 rfl) ?_
      refine x_iload_n (tk K_X11_seekHalves 62 rfl) rfl rfl ?_
      refine x_iload_n (tk K_X11_seekHalves 63 rfl) rfl rfl ?_
      refine x_iload (tk K_X11_seekHalves 64 rfl) rfl ?_
      refine x_iload (tk K_X11_seekHalves 65 rfl) rfl ?_
      refine x_iconst (tk K_X11_seekHalves 66 rfl) ic_1 ?_
      refine x_iadd (tk K_X11_seekHalves 67 rfl) ?_
      refine x_mmax (tk K_X11_seekHalves 68 rfl) mx_X11_181 mx_max_st mx_max_co hd (Nat.le_of_ble_eq_true rfl) ?_
      refine x_bipush (tk K_X11_seekHalves 69 rfl) bp_8 ?_
      refine x_iload (tk K_X11_seekHalves 70 rfl) rfl ?_
      refine x_imul (tk K_X11_seekHalves 71 rfl) ?_
      refine x_iload (tk K_X11_seekHalves 72 rfl) rfl ?_
      refine x_iadd (tk K_X11_seekHalves 73 rfl) ?_
      refine x_callV0 (As := [vI _, vI _, vI _, vI _, vI _]) (S := []) (tk K_X11_seekHalves 74 rfl) mk_X11_356 mo_X11_seekHalves (RfS.o hS) rfl rfl (Nat.le_of_ble_eq_true rfl) hd h (fun r M2 hq => ?_)
      obtain ⟨rfl, hE, h⟩ := hq
      have hT0 := RfS.ext hS hE
      have hT1 := hE.1 _ _ _ (RfS.k34 hS)
      refine x_aload_n (tk K_X11_seekHalves 75 rfl) rfl rfl ?_
      refine x_getRc (tk K_X11_seekHalves 76 rfl) f_X11_62 rfl (RfS.o hT0) (RfS.r34 hT0) ?_
      refine x_iload (tk K_X11_seekHalves 77 rfl) rfl ?_
      refine x_dup2 (tk K_X11_seekHalves 78 rfl) rfl rfl ?_
      have hi := h.1
      have h := h.2
      refine x_iald (tk K_X11_seekHalves 79 rfl) (RfS.k34 hT0) hi ?_
      refine x_iconst (tk K_X11_seekHalves 80 rfl) ic_1 ?_
      refine x_iload_n (tk K_X11_seekHalves 81 rfl) rfl rfl ?_
      refine x_ishl (tk K_X11_seekHalves 82 rfl) ?_
      refine x_iconst (tk K_X11_seekHalves 83 rfl) ic_m1 ?_
      refine x_ixor (tk K_X11_seekHalves 84 rfl) ?_
      refine x_iand (tk K_X11_seekHalves 85 rfl) ?_
      have hi := h.1
      have h := h.2
      have h := h _ rfl
      refine x_iast (tk K_X11_seekHalves 86 rfl) (RfS.k34 hT0) hi ?_
      refine x_iincW (L' := [some (vR _), some (vI _), some (vI _), some (vI _), some (vI _), some (vI _), some (vI _)]) (tk K_X11_seekHalves 87 rfl) rfl ic_1 rfl (Nat.le_of_ble_eq_true rfl) rfl ?_
      refine x_goto (t := 70) (tk K_X11_seekHalves 88 rfl) rfl ?_
      exact h

theorem e_X11_seekHalves {X : Cx} {d kc ns : Nat} {M : Mem} {Q : Option AV → Mem → Prop} {a1 : Int32} {a2 : Int32} {a3 : Int32} {a4 : Int32} {a5 : Int32} (h : WA X d kc ns m_X11_seekHalves 0 [some (vR 75), some (vI a1), some (vI a2), some (vI a3), some (vI a4), some (vI a5), none] [] M Q) : Cl X d kc ns m_X11_seekHalves [vR 75, vI a1, vI a2, vI a3, vI a4, vI a5] M Q := Cl.intro (k := 1) (by decide) rfl rfl h

-- TwoPencilsModel.weighHalves(II)V
theorem b_X11_weighHalves_0 {X : Cx} {d kc ns : Nat} {M : Mem} {Q : Option AV → Mem → Prop} {l1 : Int32} {l2 : Int32} (hS : RfS M)
    (h : WA X d kc ns m_X11_weighHalves 2 [some (vR 75), some (vI l1), some (vI l2), some (vI (nI 0))] [] M Q) :
    WA X d kc ns m_X11_weighHalves 0 [some (vR 75), some (vI l1), some (vI l2), none] [] M Q := by
  refine x_iconst (tk K_X11_weighHalves 0 rfl) ic_0 ?_
  refine x_istore_n (L' := [some (vR _), some (vI _), some (vI _), some (vI _)]) (tk K_X11_weighHalves 1 rfl) rfl rfl (Nat.le_of_ble_eq_true rfl) rfl ?_
  exact h

theorem b_X11_weighHalves_2 {X : Cx} {d kc ns : Nat} {M : Mem} {Q : Option AV → Mem → Prop} {l1 : Int32} {l2 : Int32} {l3 : Int32} (hS : RfS M) (hd : 1 ≤ d)
    (h : ((l2 ≤ l3 → Cl X (d - 1) 0 0 m_X11_canPair [vR 75, vI (nI 0), vI l2] M (fun r M1 => ∃ x1 : Int32, r = some (vI x1) ∧ Ext M M1 ∧ ((¬ x1 = nI 0 → ((¬ (mI M1 75 35) = nI 0 → Cl X (d - 1) 0 0 m_X11_pairValue [vR 75, vI (nI 0), vI l2, vI ((nI 1) - (mI M1 75 37))] M1 (fun r M2 => ∃ x2 : Int32, r = some (vI x2) ∧ Ext M1 M2 ∧ (((mI M2 75 42) = nI 0 → WA X d kc ns m_X11_weighHalves 101 [some (vR 75), some (vI l1), none, some (vI x2)] [] M2 Q) ∧ (¬ (mI M2 75 42) = nI 0 → ((¬ (mI M2 75 37) = (nI 1) → (((mI M2 75 38) ≤ x2 → Q none M2) ∧ (¬ (mI M2 75 38) ≤ x2 → WA X d kc ns m_X11_weighHalves 101 [some (vR 75), some (vI l1), none, some (vI x2)] [] M2 Q))) ∧ ((mI M2 75 37) = (nI 1) → ((x2 ≤ (mI M2 75 38) → Q none M2) ∧ (¬ x2 ≤ (mI M2 75 38) → WA X d kc ns m_X11_weighHalves 101 [some (vR 75), some (vI l1), none, some (vI x2)] [] M2 Q)))))))) ∧ ((mI M1 75 35) = nI 0 → ∀ M3 : Mem, M3 = sI M1 75 42 (nI 1) → Q none M3))) ∧ (x1 = nI 0 → Q none M1)))) ∧ (¬ l2 ≤ l3 → vp_in l3 8 ∧ vp_in (mI M 93 (ix l3)) 512 ∧ Cl X (d - 1) 0 0 m_X11_hangs [vI (mI M 87 (ix (mI M 93 (ix l3))))] M (fun r M4 => ∃ x3 : Int32, r = some (vI x3) ∧ Ext M M4 ∧ ((¬ x3 = nI 0 → WA X d kc ns m_X11_weighHalves 2 [some (vR 75), some (vI l1), some (vI l2), some (vI (l3 + (nI 1)))] [] M4 Q) ∧ (x3 = nI 0 → Q none M4)))))) :
    WA X d kc ns m_X11_weighHalves 2 [some (vR 75), some (vI l1), some (vI l2), some (vI l3)] [] M Q := by
  refine x_iload_n (tk K_X11_weighHalves 2 rfl) rfl rfl ?_
  refine x_iload_n (tk K_X11_weighHalves 3 rfl) rfl rfl ?_
  refine x_icmp_ge (t := 31) (tk K_X11_weighHalves 4 rfl) rfl (fun hc => ?_) (fun hc => ?_)
  · have h := h.1 hc
    refine x_aload_n (tk K_X11_weighHalves 17 rfl) rfl rfl ?_
    refine x_iconst (tk K_X11_weighHalves 18 rfl) ic_0 ?_
    refine x_iload_n (tk K_X11_weighHalves 19 rfl) rfl rfl ?_
    refine x_callV0 (As := [vI _, vI _]) (S := []) (tk K_X11_weighHalves 20 rfl) mk_X11_340 mo_X11_canPair (RfS.o hS) rfl rfl (Nat.le_of_ble_eq_true rfl) hd h (fun r M1 hq => ?_)
    obtain ⟨x1, rfl, hE, h⟩ := hq
    have hT0 := RfS.ext hS hE
    refine x_if_ne (t := 41) (tk K_X11_weighHalves 21 rfl) rfl (fun hc => ?_) (fun hc => ?_)
    · have h := h.1 hc
      refine x_aload_n (tk K_X11_weighHalves 23 rfl) rfl rfl ?_
      refine x_getI (tk K_X11_weighHalves 24 rfl) f_X11_346 rfl (RfS.o hT0) ?_
      refine x_if_ne (t := 54) (tk K_X11_weighHalves 25 rfl) rfl (fun hc => ?_) (fun hc => ?_)
      · have h := h.1 hc
        refine x_aload_n (tk K_X11_weighHalves 30 rfl) rfl rfl ?_
        refine x_iconst (tk K_X11_weighHalves 31 rfl) ic_0 ?_
        refine x_iload_n (tk K_X11_weighHalves 32 rfl) rfl rfl ?_
        refine x_iconst (tk K_X11_weighHalves 33 rfl) ic_1 ?_
        refine x_aload_n (tk K_X11_weighHalves 34 rfl) rfl rfl ?_
        refine x_getI (tk K_X11_weighHalves 35 rfl) f_X11_360 rfl (RfS.o hT0) ?_
        refine x_isub (tk K_X11_weighHalves 36 rfl) ?_
        refine x_callV0 (As := [vI _, vI _, vI _]) (S := []) (tk K_X11_weighHalves 37 rfl) mk_X11_363 mo_X11_pairValue (RfS.o hT0) rfl rfl (Nat.le_of_ble_eq_true rfl) hd h (fun r M2 hq => ?_)
        obtain ⟨x2, rfl, hE, h⟩ := hq
        have hT1 := RfS.ext hT0 hE
        refine x_istore_n (L' := [some (vR _), some (vI _), some (vI _), some (vI _)]) (tk K_X11_weighHalves 38 rfl) rfl rfl (Nat.le_of_ble_eq_true rfl) rfl ?_
        refine x_aload_n (tk K_X11_weighHalves 39 rfl) rfl rfl ?_
        refine x_getI (tk K_X11_weighHalves 40 rfl) f_X11_349 rfl (RfS.o hT1) ?_
        refine x_if_eq (t := 101) (tk K_X11_weighHalves 41 rfl) rfl (fun hc => ?_) (fun hc => ?_)
        · have h := h.1 hc
          refine x_msk [true, true, false, true] ?_
          exact h
        · have h := h.2 hc
          refine x_aload_n (tk K_X11_weighHalves 42 rfl) rfl rfl ?_
          refine x_getI (tk K_X11_weighHalves 43 rfl) f_X11_360 rfl (RfS.o hT1) ?_
          refine x_iconst (tk K_X11_weighHalves 44 rfl) ic_1 ?_
          refine x_icmp_ne (t := 93) (tk K_X11_weighHalves 45 rfl) rfl (fun hc => ?_) (fun hc => ?_)
          · have h := h.1 hc
            refine x_iload_n (tk K_X11_weighHalves 51 rfl) rfl rfl ?_
            refine x_aload_n (tk K_X11_weighHalves 52 rfl) rfl rfl ?_
            refine x_getI (tk K_X11_weighHalves 53 rfl) f_X11_366 rfl (RfS.o hT1) ?_
            refine x_icmp_ge (t := 116) (tk K_X11_weighHalves 54 rfl) rfl (fun hc => ?_) (fun hc => ?_)
            · have h := h.1 hc
              exact x_return (tk K_X11_weighHalves 64 rfl) rfl h
            · have h := h.2 hc
              refine x_msk [true, true, false, true] ?_
              exact h
          · have h := h.2 hc
            refine x_iload_n (tk K_X11_weighHalves 46 rfl) rfl rfl ?_
            refine x_aload_n (tk K_X11_weighHalves 47 rfl) rfl rfl ?_
            refine x_getI (tk K_X11_weighHalves 48 rfl) f_X11_366 rfl (RfS.o hT1) ?_
            refine x_icmp_le (t := 116) (tk K_X11_weighHalves 49 rfl) rfl (fun hc => ?_) (fun hc => ?_)
            · have h := h.1 hc
              exact x_return (tk K_X11_weighHalves 64 rfl) rfl h
            · have h := h.2 hc
              refine x_goto (t := 101) (tk K_X11_weighHalves 50 rfl) rfl ?_
              refine x_msk [true, true, false, true] ?_
              exact h
      · have h := h.2 hc
        refine x_aload_n (tk K_X11_weighHalves 26 rfl) rfl rfl ?_
        refine x_iconst (tk K_X11_weighHalves 27 rfl) ic_1 ?_
        have h := h _ rfl
        refine x_putZ (tk K_X11_weighHalves 28 rfl) f_X11_349 rfl (Or.inl rfl) (RfS.o hT0) (Or.inr rfl) ?_
        exact x_return (tk K_X11_weighHalves 29 rfl) rfl h
    · have h := h.2 hc
      exact x_return (tk K_X11_weighHalves 22 rfl) rfl h
  · have h := h.2 hc
    refine x_aload_n (tk K_X11_weighHalves 5 rfl) rfl rfl ?_
    refine x_getRc (tk K_X11_weighHalves 6 rfl) f_X11_43 rfl (RfS.o hS) (RfS.r17 hS) ?_
    refine x_aload_n (tk K_X11_weighHalves 7 rfl) rfl rfl ?_
    refine x_getRc (tk K_X11_weighHalves 8 rfl) f_X11_62 rfl (RfS.o hS) (RfS.r34 hS) ?_
    refine x_iload_n (tk K_X11_weighHalves 9 rfl) rfl rfl ?_
    have hi := h.1
    have h := h.2
    refine x_iald (tk K_X11_weighHalves 10 rfl) (RfS.k34 hS) hi ?_
    have hi := h.1
    have h := h.2
    refine x_iald (tk K_X11_weighHalves 11 rfl) (RfS.k17 hS) hi ?_
    refine x_callS0 (As := [vI _]) (S := []) (tk K_X11_weighHalves 12 rfl) mk_X11_337 mo_X11_hangs rfl rfl (Nat.le_of_ble_eq_true rfl) hd h (fun r M4 hq => ?_)
    obtain ⟨x3, rfl, hE, h⟩ := hq
    have hT2 := RfS.ext hS hE
    have hT3 := hE.1 _ _ _ (RfS.k17 hS)
    have hT4 := hE.1 _ _ _ (RfS.k34 hS)
    refine x_if_ne (t := 25) (tk K_X11_weighHalves 13 rfl) rfl (fun hc => ?_) (fun hc => ?_)
    · have h := h.1 hc
      refine x_iincW (L' := [some (vR _), some (vI _), some (vI _), some (vI _)]) (tk K_X11_weighHalves 15 rfl) rfl ic_1 rfl (Nat.le_of_ble_eq_true rfl) rfl ?_
      refine x_goto (t := 2) (tk K_X11_weighHalves 16 rfl) rfl ?_
      exact h
    · have h := h.2 hc
      exact x_return (tk K_X11_weighHalves 14 rfl) rfl h

theorem b_X11_weighHalves_101 {X : Cx} {d kc ns : Nat} {M : Mem} {Q : Option AV → Mem → Prop} {l1 : Int32} {l3 : Int32} (hS : RfS M)
    (h : ∀ M1 : Mem, M1 = sI M 75 42 (nI 1) → ∀ M2 : Mem, M2 = sI M1 75 38 l3 → ∀ M3 : Mem, M3 = sI M2 75 39 l1 → Q none M3) :
    WA X d kc ns m_X11_weighHalves 101 [some (vR 75), some (vI l1), none, some (vI l3)] [] M Q := by
  refine x_aload_n (tk K_X11_weighHalves 55 rfl) rfl rfl ?_
  refine x_iconst (tk K_X11_weighHalves 56 rfl) ic_1 ?_
  have h := h _ rfl
  refine x_putZ (tk K_X11_weighHalves 57 rfl) f_X11_349 rfl (Or.inl rfl) (RfS.o hS) (Or.inr rfl) ?_
  refine x_aload_n (tk K_X11_weighHalves 58 rfl) rfl rfl ?_
  refine x_iload_n (tk K_X11_weighHalves 59 rfl) rfl rfl ?_
  have h := h _ rfl
  refine x_putI (tk K_X11_weighHalves 60 rfl) f_X11_366 rfl (Or.inl rfl) (RfS.o hS) ?_
  refine x_aload_n (tk K_X11_weighHalves 61 rfl) rfl rfl ?_
  refine x_iload_n (tk K_X11_weighHalves 62 rfl) rfl rfl ?_
  have h := h _ rfl
  refine x_putI (tk K_X11_weighHalves 63 rfl) f_X11_369 rfl (Or.inl rfl) (RfS.o hS) ?_
  exact x_return (tk K_X11_weighHalves 64 rfl) rfl h

theorem e_X11_weighHalves {X : Cx} {d kc ns : Nat} {M : Mem} {Q : Option AV → Mem → Prop} {a1 : Int32} {a2 : Int32} (h : WA X d kc ns m_X11_weighHalves 0 [some (vR 75), some (vI a1), some (vI a2), none] [] M Q) : Cl X d kc ns m_X11_weighHalves [vR 75, vI a1, vI a2] M Q := Cl.intro (k := 1) (by decide) rfl rfl h
