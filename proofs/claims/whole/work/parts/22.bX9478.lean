-- TwoPencils$LandText.<init>()V
theorem b_X4_init_0 {X : Cx} {d kc ns : Nat} {M : Mem} {Q : Option AV → Mem → Prop} {l0 : Nat} (hS : isK M l0 4 7) (hd : 1 ≤ d)
    (h : vp_in (nI 27) 65536 ∧ 1 ≤ kc ∧ ix (nI 27) ≤ ns ∧ ∀ M1 : Mem, M1 = nw M 14 (ix (nI 27)) → ∀ M2 : Mem, M2 = sR M1 l0 4 (nx M) → vp_in (nI 9) 65536 ∧ 1 ≤ (kc - 1) ∧ ix (nI 9) ≤ (ns - ix (nI 27)) ∧ ∀ M3 : Mem, M3 = nw M2 14 (ix (nI 9)) → ∀ M4 : Mem, M4 = sR M3 l0 5 (nx M2) → vp_in (nI 9) 65536 ∧ 1 ≤ ((kc - 1) - 1) ∧ ix (nI 9) ≤ ((ns - ix (nI 27)) - ix (nI 9)) ∧ ∀ M5 : Mem, M5 = nw M4 14 (ix (nI 9)) → ∀ M6 : Mem, M6 = sR M5 l0 6 (nx M4) → Q none M6) :
    WA X d kc ns m_X4_init 0 [some (vR l0)] [] M Q := by
  refine x_aload_n (tk K_X4_init 0 rfl) rfl rfl ?_
  refine x_objInit (tk K_X4_init 1 rfl) oi_X4_3 oi_in oi_code hS (by decide) hd ?_
  refine x_aload_n (tk K_X4_init 2 rfl) rfl rfl ?_
  refine x_bipush (tk K_X4_init 3 rfl) bp_27 ?_
  have hx := h.1
  have hk := h.2.1
  have hn := h.2.2.1
  have h := h.2.2.2
  refine x_newa (k := 14) (tk K_X4_init 4 rfl) rfl ac_14 hx hk hn ?_
  refine WA_nm (fun M1 e_M1 => ?_)
  have h := h M1 e_M1
  have hT1 : isK M1 (nx M) 14 (ix (nI 27)) := by rw [e_M1]; exact isK_nw
  have hT2 : isK M1 l0 4 7 := by rw [e_M1]; exact (isK_nw_old hS)
  refine x_putR (tk K_X4_init 5 rfl) f_X4_9 rfl rfl (Or.inr ⟨rfl, rfl, rfl, l_X4_9⟩) hT2 ?_
  refine WA_nm (fun M2 e_M2 => ?_)
  have h := h M2 e_M2
  have hT3 : isK M2 l0 4 7 := by rw [e_M2]; exact hT2
  refine x_aload_n (tk K_X4_init 6 rfl) rfl rfl ?_
  refine x_bipush (tk K_X4_init 7 rfl) bp_9 ?_
  have hx := h.1
  have hk := h.2.1
  have hn := h.2.2.1
  have h := h.2.2.2
  refine x_newa (k := 14) (tk K_X4_init 8 rfl) rfl ac_14 hx hk hn ?_
  refine WA_nm (fun M3 e_M3 => ?_)
  have h := h M3 e_M3
  have hT5 : isK M3 (nx M2) 14 (ix (nI 9)) := by rw [e_M3]; exact isK_nw
  have hT6 : isK M3 l0 4 7 := by rw [e_M3]; exact (isK_nw_old hT3)
  refine x_putR (tk K_X4_init 9 rfl) f_X4_15 rfl rfl (Or.inr ⟨rfl, rfl, rfl, l_X4_15⟩) hT6 ?_
  refine WA_nm (fun M4 e_M4 => ?_)
  have h := h M4 e_M4
  have hT7 : isK M4 l0 4 7 := by rw [e_M4]; exact hT6
  refine x_aload_n (tk K_X4_init 10 rfl) rfl rfl ?_
  refine x_bipush (tk K_X4_init 11 rfl) bp_9 ?_
  have hx := h.1
  have hk := h.2.1
  have hn := h.2.2.1
  have h := h.2.2.2
  refine x_newa (k := 14) (tk K_X4_init 12 rfl) rfl ac_14 hx hk hn ?_
  refine WA_nm (fun M5 e_M5 => ?_)
  have h := h M5 e_M5
  have hT9 : isK M5 (nx M4) 14 (ix (nI 9)) := by rw [e_M5]; exact isK_nw
  have hT10 : isK M5 l0 4 7 := by rw [e_M5]; exact (isK_nw_old hT7)
  refine x_putR (tk K_X4_init 13 rfl) f_X4_18 rfl rfl (Or.inr ⟨rfl, rfl, rfl, l_X4_18⟩) hT10 ?_
  refine WA_nm (fun M6 e_M6 => ?_)
  have h := h M6 e_M6
  have hT11 : isK M6 l0 4 7 := by rw [e_M6]; exact hT10
  exact x_return (tk K_X4_init 14 rfl) rfl h

theorem e_X4_init {X : Cx} {d kc ns : Nat} {M : Mem} {Q : Option AV → Mem → Prop} {a0 : Nat} (h : WA X d kc ns m_X4_init 0 [some (vR a0)] [] M Q) : Cl X d kc ns m_X4_init [vR a0] M Q := Cl.intro (k := 0) (by decide) rfl rfl h

-- TwoPencils$LandText.read(LTwoPencils$Tape;)I
theorem b_X4_read_0 {X : Cx} {d kc ns : Nat} {M : Mem} {Q : Option AV → Mem → Prop} {l0 : Nat} {l1 : Nat} (hS : LtS M l0) (hd : 1 ≤ d)
    (h : Cl X (d - 1) 0 0 m_X4_clear [vR l0] M (fun r M1 => r = none ∧ Ext M M1 ∧ TaS M1 l1 ∧ Cl X (d - 1) 0 0 m_X9_rewind [vR l1] M1 (fun r M2 => r = none ∧ Ext M1 M2 ∧ Cl X (d - 1) 0 0 m_X4_readSize [vR l0, vR l1] M2 (fun r M3 => ∃ x1 : Int32, r = some (vI x1) ∧ Ext M2 M3 ∧ WA X d kc ns m_X4_read 16 [some (vR l0), some (vR l1), some (vI x1), some (vI (nI 0))] [] M3 Q)))) :
    WA X d kc ns m_X4_read 0 [some (vR l0), some (vR l1), none, none] [] M Q := by
  refine x_aload_n (tk K_X4_read 0 rfl) rfl rfl ?_
  refine x_callV0 (As := []) (S := []) (tk K_X4_read 1 rfl) mk_X4_21 mo_X4_clear (LtS.o hS) rfl rfl (Nat.le_of_ble_eq_true rfl) hd h (fun r M1 hq => ?_)
  obtain ⟨rfl, hE, h⟩ := hq
  have hT0 := LtS.ext hS hE
  refine x_aload_n (tk K_X4_read 2 rfl) rfl rfl ?_
  have hS_2 := h.1
  have h := h.2
  refine x_callV0 (As := []) (S := []) (tk K_X4_read 3 rfl) mk_X4_24 mo_X9_rewind (TaS.o hS_2) rfl rfl (Nat.le_of_ble_eq_true rfl) hd h (fun r M2 hq => ?_)
  obtain ⟨rfl, hE, h⟩ := hq
  have hT1 := LtS.ext hT0 hE
  have hT2 := TaS.ext hS_2 hE
  refine x_aload_n (tk K_X4_read 4 rfl) rfl rfl ?_
  refine x_aload_n (tk K_X4_read 5 rfl) rfl rfl ?_
  refine x_callV0 (As := [vR _]) (S := []) (tk K_X4_read 6 rfl) mk_X4_29 mo_X4_readSize (LtS.o hT1) rfl rfl (Nat.le_of_ble_eq_true rfl) hd h (fun r M3 hq => ?_)
  obtain ⟨x1, rfl, hE, h⟩ := hq
  have hT3 := LtS.ext hT1 hE
  have hT4 := TaS.ext hT2 hE
  refine x_istore_n (L' := [some (vR _), some (vR _), some (vI _), none]) (tk K_X4_read 7 rfl) rfl rfl (Nat.le_of_ble_eq_true rfl) rfl ?_
  refine x_iconst (tk K_X4_read 8 rfl) ic_0 ?_
  refine x_istore_n (L' := [some (vR _), some (vR _), some (vI _), some (vI _)]) (tk K_X4_read 9 rfl) rfl rfl (Nat.le_of_ble_eq_true rfl) rfl ?_
  exact h

theorem b_X4_read_16 {X : Cx} {d kc ns : Nat} {M : Mem} {Q : Option AV → Mem → Prop} {l0 : Nat} {l1 : Nat} {l2 : Int32} {l3 : Int32} (hS : LtS M l0) (hd : 1 ≤ d)
    (h : (((nI 300) ≤ l3 → TaS M l1 ∧ Q (some (vI (mI M l1 3))) M) ∧ (¬ (nI 300) ≤ l3 → ((l2 = nI 0 → TaS M l1 ∧ Q (some (vI (mI M l1 3))) M) ∧ (¬ l2 = nI 0 → TaS M l1 ∧ Cl X (d - 1) 0 0 m_X9_peek [vR l1] M (fun r M1 => ∃ x1 : Int32, r = some (vI x1) ∧ Ext M M1 ∧ ((x1 = nI 0 → Q (some (vI (mI M1 l1 3))) M1) ∧ (¬ x1 = nI 0 → Cl X (d - 1) 0 0 m_X9_take [vR l1, vI (nI 59)] M1 (fun r M2 => ∃ x2 : Int32, r = some (vI x2) ∧ Ext M1 M2 ∧ ((x2 = nI 0 → WA X d kc ns m_X4_read 16 [some (vR l0), some (vR l1), some (vI (nI 0)), some (vI (l3 + (nI 1)))] [] M2 Q) ∧ (¬ x2 = nI 0 → Cl X (d - 1) 0 0 m_X4_readSentence [vR l0, vR l1] M2 (fun r M3 => ∃ x3 : Int32, r = some (vI x3) ∧ Ext M2 M3 ∧ ((x3 = nI 0 → WA X d kc ns m_X4_read 16 [some (vR l0), some (vR l1), some (vI (nI 0)), some (vI (l3 + (nI 1)))] [] M3 Q) ∧ (¬ x3 = nI 0 → WA X d kc ns m_X4_read 16 [some (vR l0), some (vR l1), some (vI (nI 1)), some (vI (l3 + (nI 1)))] [] M3 Q)))))))))))))) :
    WA X d kc ns m_X4_read 16 [some (vR l0), some (vR l1), some (vI l2), some (vI l3)] [] M Q := by
  refine x_iload_n (tk K_X4_read 10 rfl) rfl rfl ?_
  refine x_sipush (tk K_X4_read 11 rfl) sp_300 ?_
  refine x_icmp_ge (t := 63) (tk K_X4_read 12 rfl) rfl (fun hc => ?_) (fun hc => ?_)
  · have h := h.1 hc
    refine x_aload_n (tk K_X4_read 32 rfl) rfl rfl ?_
    have hS_2 := h.1
    have h := h.2
    refine x_getI (tk K_X4_read 33 rfl) f_X4_44 rfl (TaS.o hS_2) ?_
    exact x_ireturn (tk K_X4_read 34 rfl) rfl rfl h
  · have h := h.2 hc
    refine x_iload_n (tk K_X4_read 13 rfl) rfl rfl ?_
    refine x_if_eq (t := 63) (tk K_X4_read 14 rfl) rfl (fun hc => ?_) (fun hc => ?_)
    · have h := h.1 hc
      refine x_aload_n (tk K_X4_read 32 rfl) rfl rfl ?_
      have hS_22 := h.1
      have h := h.2
      refine x_getI (tk K_X4_read 33 rfl) f_X4_44 rfl (TaS.o hS_22) ?_
      exact x_ireturn (tk K_X4_read 34 rfl) rfl rfl h
    · have h := h.2 hc
      refine x_aload_n (tk K_X4_read 15 rfl) rfl rfl ?_
      have hS_42 := h.1
      have h := h.2
      refine x_callV0 (As := []) (S := []) (tk K_X4_read 16 rfl) mk_X4_33 mo_X9_peek (TaS.o hS_42) rfl rfl (Nat.le_of_ble_eq_true rfl) hd h (fun r M1 hq => ?_)
      obtain ⟨x1, rfl, hE, h⟩ := hq
      have hT0 := LtS.ext hS hE
      have hT1 := TaS.ext hS_42 hE
      refine x_if_eq (t := 63) (tk K_X4_read 17 rfl) rfl (fun hc => ?_) (fun hc => ?_)
      · have h := h.1 hc
        refine x_aload_n (tk K_X4_read 32 rfl) rfl rfl ?_
        refine x_getI (tk K_X4_read 33 rfl) f_X4_44 rfl (TaS.o hT1) ?_
        exact x_ireturn (tk K_X4_read 34 rfl) rfl rfl h
      · have h := h.2 hc
        refine x_aload_n (tk K_X4_read 18 rfl) rfl rfl ?_
        refine x_bipush (tk K_X4_read 19 rfl) bp_59 ?_
        refine x_callV0 (As := [vI _]) (S := []) (tk K_X4_read 20 rfl) mk_X4_37 mo_X9_take (TaS.o hT1) rfl rfl (Nat.le_of_ble_eq_true rfl) hd h (fun r M2 hq => ?_)
        obtain ⟨x2, rfl, hE, h⟩ := hq
        have hT2 := LtS.ext hT0 hE
        have hT3 := TaS.ext hT1 hE
        refine x_if_eq (t := 55) (tk K_X4_read 21 rfl) rfl (fun hc => ?_) (fun hc => ?_)
        · have h := h.1 hc
          refine x_iconst (tk K_X4_read 28 rfl) ic_0 ?_
          refine x_istore_n (L' := [some (vR _), some (vR _), some (vI _), some (vI _)]) (tk K_X4_read 29 rfl) rfl rfl (Nat.le_of_ble_eq_true rfl) rfl ?_
          refine x_iincW (L' := [some (vR _), some (vR _), some (vI _), some (vI _)]) (tk K_X4_read 30 rfl) rfl ic_1 rfl (Nat.le_of_ble_eq_true rfl) rfl ?_
          refine x_goto (t := 16) (tk K_X4_read 31 rfl) rfl ?_
          exact h
        · have h := h.2 hc
          refine x_aload_n (tk K_X4_read 22 rfl) rfl rfl ?_
          refine x_aload_n (tk K_X4_read 23 rfl) rfl rfl ?_
          refine x_callV0 (As := [vR _]) (S := []) (tk K_X4_read 24 rfl) mk_X4_41 mo_X4_readSentence (LtS.o hT2) rfl rfl (Nat.le_of_ble_eq_true rfl) hd h (fun r M3 hq => ?_)
          obtain ⟨x3, rfl, hE, h⟩ := hq
          have hT4 := LtS.ext hT2 hE
          have hT5 := TaS.ext hT3 hE
          refine x_if_eq (t := 55) (tk K_X4_read 25 rfl) rfl (fun hc => ?_) (fun hc => ?_)
          · have h := h.1 hc
            refine x_iconst (tk K_X4_read 28 rfl) ic_0 ?_
            refine x_istore_n (L' := [some (vR _), some (vR _), some (vI _), some (vI _)]) (tk K_X4_read 29 rfl) rfl rfl (Nat.le_of_ble_eq_true rfl) rfl ?_
            refine x_iincW (L' := [some (vR _), some (vR _), some (vI _), some (vI _)]) (tk K_X4_read 30 rfl) rfl ic_1 rfl (Nat.le_of_ble_eq_true rfl) rfl ?_
            refine x_goto (t := 16) (tk K_X4_read 31 rfl) rfl ?_
            exact h
          · have h := h.2 hc
            refine x_iconst (tk K_X4_read 26 rfl) ic_1 ?_
            refine x_goto (t := 56) (tk K_X4_read 27 rfl) rfl ?_
            refine x_istore_n (L' := [some (vR _), some (vR _), some (vI _), some (vI _)]) (tk K_X4_read 29 rfl) rfl rfl (Nat.le_of_ble_eq_true rfl) rfl ?_
            refine x_iincW (L' := [some (vR _), some (vR _), some (vI _), some (vI _)]) (tk K_X4_read 30 rfl) rfl ic_1 rfl (Nat.le_of_ble_eq_true rfl) rfl ?_
            refine x_goto (t := 16) (tk K_X4_read 31 rfl) rfl ?_
            exact h

theorem e_X4_read {X : Cx} {d kc ns : Nat} {M : Mem} {Q : Option AV → Mem → Prop} {a0 : Nat} {a1 : Nat} (h : WA X d kc ns m_X4_read 0 [some (vR a0), some (vR a1), none, none] [] M Q) : Cl X d kc ns m_X4_read [vR a0, vR a1] M Q := Cl.intro (k := 2) (by decide) rfl rfl h

-- TwoPencils$LandText.clear()V
theorem b_X4_clear_0 {X : Cx} {d kc ns : Nat} {M : Mem} {Q : Option AV → Mem → Prop} {l0 : Nat} (hS : LtS M l0) (hd : 1 ≤ d)
    (h : ∀ M1 : Mem, M1 = sI M l0 2 (nI 0) → ∀ M2 : Mem, M2 = sI M1 l0 3 (nI 999) → Cl X (d - 1) 0 0 m_J7_fill_53178 [vR (l0 + 1), vI (nI 0)] M2 (fun r M3 => r = none ∧ Ext M2 M3 ∧ Cl X (d - 1) 0 0 m_J7_fill_53178 [vR (l0 + 2), vI (nI 0)] M3 (fun r M4 => r = none ∧ Ext M3 M4 ∧ WA X d kc ns m_X4_clear 30 [some (vR l0), some (vI (nI 0))] [] M4 Q))) :
    WA X d kc ns m_X4_clear 0 [some (vR l0), none] [] M Q := by
  refine x_aload_n (tk K_X4_clear 0 rfl) rfl rfl ?_
  refine x_iconst (tk K_X4_clear 1 rfl) ic_0 ?_
  have h := h _ rfl
  refine x_putI (tk K_X4_clear 2 rfl) f_X4_48 rfl (Or.inl rfl) (LtS.o hS) ?_
  refine x_aload_n (tk K_X4_clear 3 rfl) rfl rfl ?_
  refine x_sipush (tk K_X4_clear 4 rfl) sp_999 ?_
  have h := h _ rfl
  refine x_putI (tk K_X4_clear 5 rfl) f_X4_51 rfl (Or.inl rfl) (LtS.o hS) ?_
  refine x_aload_n (tk K_X4_clear 6 rfl) rfl rfl ?_
  refine x_getRc (tk K_X4_clear 7 rfl) f_X4_9 rfl (LtS.o hS) (LtS.r4 hS) ?_
  refine x_iconst (tk K_X4_clear 8 rfl) ic_0 ?_
  refine x_callS0 (As := [vR _, vI _]) (S := []) (tk K_X4_clear 9 rfl) mk_X4_54 mo_J7_fill_53178 rfl rfl (Nat.le_of_ble_eq_true rfl) hd h (fun r M3 hq => ?_)
  obtain ⟨rfl, hE, h⟩ := hq
  have hT0 := LtS.ext hS hE
  have hT1 := hE.1 _ _ _ (LtS.k4 hS)
  refine x_aload_n (tk K_X4_clear 10 rfl) rfl rfl ?_
  refine x_getRc (tk K_X4_clear 11 rfl) f_X4_15 rfl (LtS.o hT0) (LtS.r5 hT0) ?_
  refine x_iconst (tk K_X4_clear 12 rfl) ic_0 ?_
  refine x_callS0 (As := [vR _, vI _]) (S := []) (tk K_X4_clear 13 rfl) mk_X4_54 mo_J7_fill_53178 rfl rfl (Nat.le_of_ble_eq_true rfl) hd h (fun r M4 hq => ?_)
  obtain ⟨rfl, hE, h⟩ := hq
  have hT2 := LtS.ext hT0 hE
  have hT3 := hE.1 _ _ _ hT1
  have hT4 := hE.1 _ _ _ (LtS.k5 hT0)
  refine x_iconst (tk K_X4_clear 14 rfl) ic_0 ?_
  refine x_istore_n (L' := [some (vR _), some (vI _)]) (tk K_X4_clear 15 rfl) rfl rfl (Nat.le_of_ble_eq_true rfl) rfl ?_
  exact h

theorem b_X4_clear_30 {X : Cx} {d kc ns : Nat} {M : Mem} {Q : Option AV → Mem → Prop} {l0 : Nat} {l1 : Int32} (hS : LtS M l0)
    (h : (((nI 9) ≤ l1 → Q none M) ∧ (¬ (nI 9) ≤ l1 → vp_in l1 9 ∧ ∀ M1 : Mem, M1 = sI M (l0 + 3) (ix l1) (shl (nI 1) l1) → WA X d kc ns m_X4_clear 30 [some (vR l0), some (vI (l1 + (nI 1)))] [] M1 Q))) :
    WA X d kc ns m_X4_clear 30 [some (vR l0), some (vI l1)] [] M Q := by
  refine x_iload_n (tk K_X4_clear 16 rfl) rfl rfl ?_
  refine x_bipush (tk K_X4_clear 17 rfl) bp_9 ?_
  refine x_icmp_ge (t := 51) (tk K_X4_clear 18 rfl) rfl (fun hc => ?_) (fun hc => ?_)
  · have h := h.1 hc
    exact x_return (tk K_X4_clear 28 rfl) rfl h
  · have h := h.2 hc
    refine x_aload_n (tk K_X4_clear 19 rfl) rfl rfl ?_
    refine x_getRc (tk K_X4_clear 20 rfl) f_X4_18 rfl (LtS.o hS) (LtS.r6 hS) ?_
    refine x_iload_n (tk K_X4_clear 21 rfl) rfl rfl ?_
    refine x_iconst (tk K_X4_clear 22 rfl) ic_1 ?_
    refine x_iload_n (tk K_X4_clear 23 rfl) rfl rfl ?_
    refine x_ishl (tk K_X4_clear 24 rfl) ?_
    have hi := h.1
    have h := h.2
    have h := h _ rfl
    refine x_iast (tk K_X4_clear 25 rfl) (LtS.k6 hS) hi ?_
    refine x_iincW (L' := [some (vR _), some (vI _)]) (tk K_X4_clear 26 rfl) rfl ic_1 rfl (Nat.le_of_ble_eq_true rfl) rfl ?_
    refine x_goto (t := 30) (tk K_X4_clear 27 rfl) rfl ?_
    exact h

theorem e_X4_clear {X : Cx} {d kc ns : Nat} {M : Mem} {Q : Option AV → Mem → Prop} {a0 : Nat} (h : WA X d kc ns m_X4_clear 0 [some (vR a0), none] [] M Q) : Cl X d kc ns m_X4_clear [vR a0] M Q := Cl.intro (k := 1) (by decide) rfl rfl h

-- TwoPencils$LandText.readSize(LTwoPencils$Tape;)Z
theorem b_X4_readSize_0 {X : Cx} {d kc ns : Nat} {M : Mem} {Q : Option AV → Mem → Prop} {l0 : Nat} {l1 : Nat} (hS : LtS M l0) (hd : 1 ≤ d)
    (h : TaS M l1 ∧ Cl X (d - 1) 0 0 m_X9_number [vR l1, vI (nI 2), vI (nI 9), vI (-1)] M (fun r M1 => ∃ x1 : Int32, r = some (vI x1) ∧ Ext M M1 ∧ ∀ M2 : Mem, M2 = sI M1 l0 0 x1 → (((mI M2 l0 0) = (-1) → Q (some (vI (nI 0))) M2) ∧ (¬ (mI M2 l0 0) = (-1) → Cl X (d - 1) 0 0 m_X9_take [vR l1, vI (nI 47)] M2 (fun r M3 => ∃ x2 : Int32, r = some (vI x2) ∧ Ext M2 M3 ∧ ((¬ x2 = nI 0 → Cl X (d - 1) 0 0 m_X9_number [vR l1, vI (nI 1), vI (minI (nI 4) (mI M3 l0 0)), vI (-1)] M3 (fun r M4 => ∃ x3 : Int32, r = some (vI x3) ∧ Ext M3 M4 ∧ ∀ M5 : Mem, M5 = sI M4 l0 1 x3 → (((mI M5 l0 1) = (-1) → Q (some (vI (nI 0))) M5) ∧ (¬ (mI M5 l0 1) = (-1) → Q (some (vI (nI 1))) M5)))) ∧ (x2 = nI 0 → Q (some (vI (nI 0))) M3))))))) :
    WA X d kc ns m_X4_readSize 0 [some (vR l0), some (vR l1)] [] M Q := by
  refine x_aload_n (tk K_X4_readSize 0 rfl) rfl rfl ?_
  refine x_aload_n (tk K_X4_readSize 1 rfl) rfl rfl ?_
  refine x_iconst (tk K_X4_readSize 2 rfl) ic_2 ?_
  refine x_bipush (tk K_X4_readSize 3 rfl) bp_9 ?_
  refine x_iconst (tk K_X4_readSize 4 rfl) ic_m1 ?_
  have hS_2 := h.1
  have h := h.2
  refine x_callV0 (As := [vI _, vI _, vI _]) (S := [vR _]) (tk K_X4_readSize 5 rfl) mk_X4_60 mo_X9_number (TaS.o hS_2) rfl rfl (Nat.le_of_ble_eq_true rfl) hd h (fun r M1 hq => ?_)
  obtain ⟨x1, rfl, hE, h⟩ := hq
  have hT0 := LtS.ext hS hE
  have hT1 := TaS.ext hS_2 hE
  have h := h _ rfl
  refine x_putI (tk K_X4_readSize 6 rfl) f_X4_64 rfl (Or.inl rfl) (LtS.o hT0) ?_
  refine x_aload_n (tk K_X4_readSize 7 rfl) rfl rfl ?_
  refine x_getI (tk K_X4_readSize 8 rfl) f_X4_64 rfl (LtS.o hT0) ?_
  refine x_iconst (tk K_X4_readSize 9 rfl) ic_m1 ?_
  refine x_icmp_eq (t := 29) (tk K_X4_readSize 10 rfl) rfl (fun hc => ?_) (fun hc => ?_)
  · have h := h.1 hc
    refine x_iconst (tk K_X4_readSize 15 rfl) ic_0 ?_
    exact x_ireturn (tk K_X4_readSize 16 rfl) rfl (fitZ (Or.inl rfl)).1 h
  · have h := h.2 hc
    refine x_aload_n (tk K_X4_readSize 11 rfl) rfl rfl ?_
    refine x_bipush (tk K_X4_readSize 12 rfl) bp_47 ?_
    refine x_callV0 (As := [vI _]) (S := []) (tk K_X4_readSize 13 rfl) mk_X4_37 mo_X9_take (TaS.o hT1) rfl rfl (Nat.le_of_ble_eq_true rfl) hd h (fun r M3 hq => ?_)
    obtain ⟨x2, rfl, hE, h⟩ := hq
    have hT2 := LtS.ext hT0 hE
    have hT3 := TaS.ext hT1 hE
    refine x_if_ne (t := 31) (tk K_X4_readSize 14 rfl) rfl (fun hc => ?_) (fun hc => ?_)
    · have h := h.1 hc
      refine x_aload_n (tk K_X4_readSize 17 rfl) rfl rfl ?_
      refine x_aload_n (tk K_X4_readSize 18 rfl) rfl rfl ?_
      refine x_iconst (tk K_X4_readSize 19 rfl) ic_1 ?_
      refine x_iconst (tk K_X4_readSize 20 rfl) ic_4 ?_
      refine x_aload_n (tk K_X4_readSize 21 rfl) rfl rfl ?_
      refine x_getI (tk K_X4_readSize 22 rfl) f_X4_64 rfl (LtS.o hT2) ?_
      refine x_mmin (tk K_X4_readSize 23 rfl) mx_X4_67 mx_min_st mx_min_co hd (Nat.le_of_ble_eq_true rfl) ?_
      refine x_iconst (tk K_X4_readSize 24 rfl) ic_m1 ?_
      refine x_callV0 (As := [vI _, vI _, vI _]) (S := [vR _]) (tk K_X4_readSize 25 rfl) mk_X4_60 mo_X9_number (TaS.o hT3) rfl rfl (Nat.le_of_ble_eq_true rfl) hd h (fun r M4 hq => ?_)
      obtain ⟨x3, rfl, hE, h⟩ := hq
      have hT4 := LtS.ext hT2 hE
      have hT5 := TaS.ext hT3 hE
      have h := h _ rfl
      refine x_putI (tk K_X4_readSize 26 rfl) f_X4_73 rfl (Or.inl rfl) (LtS.o hT4) ?_
      refine x_aload_n (tk K_X4_readSize 27 rfl) rfl rfl ?_
      refine x_getI (tk K_X4_readSize 28 rfl) f_X4_73 rfl (LtS.o hT4) ?_
      refine x_iconst (tk K_X4_readSize 29 rfl) ic_m1 ?_
      refine x_icmp_eq (t := 61) (tk K_X4_readSize 30 rfl) rfl (fun hc => ?_) (fun hc => ?_)
      · have h := h.1 hc
        refine x_iconst (tk K_X4_readSize 33 rfl) ic_0 ?_
        exact x_ireturn (tk K_X4_readSize 34 rfl) rfl (fitZ (Or.inl rfl)).1 h
      · have h := h.2 hc
        refine x_iconst (tk K_X4_readSize 31 rfl) ic_1 ?_
        refine x_goto (t := 62) (tk K_X4_readSize 32 rfl) rfl ?_
        exact x_ireturn (tk K_X4_readSize 34 rfl) rfl (fitZ (Or.inr rfl)).1 h
    · have h := h.2 hc
      refine x_iconst (tk K_X4_readSize 15 rfl) ic_0 ?_
      exact x_ireturn (tk K_X4_readSize 16 rfl) rfl (fitZ (Or.inl rfl)).1 h

theorem e_X4_readSize {X : Cx} {d kc ns : Nat} {M : Mem} {Q : Option AV → Mem → Prop} {a0 : Nat} {a1 : Nat} (h : WA X d kc ns m_X4_readSize 0 [some (vR a0), some (vR a1)] [] M Q) : Cl X d kc ns m_X4_readSize [vR a0, vR a1] M Q := Cl.intro (k := 0) (by decide) rfl rfl h

-- TwoPencils$LandText.readSentence(LTwoPencils$Tape;)Z
theorem b_X4_readSentence_0 {X : Cx} {d kc ns : Nat} {M : Mem} {Q : Option AV → Mem → Prop} {l0 : Nat} {l1 : Nat} (hS : LtS M l0) (hd : 1 ≤ d)
    (h : TaS M l1 ∧ Cl X (d - 1) 0 0 m_X9_peek [vR l1] M (fun r M1 => ∃ x1 : Int32, r = some (vI x1) ∧ Ext M M1 ∧ ((¬ x1 = (nI 60) → ((¬ x1 = (nI 62) → Cl X (d - 1) 0 0 m_X9_number [vR l1, vI (nI 0), vI ((mI M1 l0 0) - (nI 1)), vI (-1)] M1 (fun r M2 => ∃ x2 : Int32, r = some (vI x2) ∧ Ext M1 M2 ∧ ((¬ x2 = (-1) → Cl X (d - 1) 0 0 m_X9_peek [vR l1] M2 (fun r M3 => ∃ x3 : Int32, r = some (vI x3) ∧ Ext M2 M3 ∧ ((¬ x3 = (nI 58) → ((¬ x3 = (nI 45) → ((¬ x3 = (nI 61) → Cl X (d - 1) 0 0 m_X9_refuse [vR l1, vI (mI M3 l1 2)] M3 (fun r M4 => ∃ x4 : Int32, r = some (vI x4) ∧ Ext M3 M4 ∧ (isB x4 ∧ Q (some (vI x4)) M4))) ∧ (x3 = (nI 61) → Cl X (d - 1) 0 0 m_X4_readPair [vR l0, vR l1, vI x2, vR (l0 + 3)] M3 (fun r M5 => ∃ x5 : Int32, r = some (vI x5) ∧ Ext M3 M5 ∧ (isB x5 ∧ Q (some (vI x5)) M5))))) ∧ (x3 = (nI 45) → Cl X (d - 1) 0 0 m_X4_readPair [vR l0, vR l1, vI x2, vR (l0 + 2)] M3 (fun r M6 => ∃ x6 : Int32, r = some (vI x6) ∧ Ext M3 M6 ∧ (isB x6 ∧ Q (some (vI x6)) M6))))) ∧ (x3 = (nI 58) → Cl X (d - 1) 0 0 m_X9_pass [vR l1] M3 (fun r M7 => r = none ∧ Ext M3 M7 ∧ Cl X (d - 1) 0 0 m_X4_readVotes [vR l0, vR l1, vI (x2 * (nI 3))] M7 (fun r M8 => ∃ x7 : Int32, r = some (vI x7) ∧ Ext M7 M8 ∧ (isB x7 ∧ Q (some (vI x7)) M8))))))) ∧ (x2 = (-1) → Q (some (vI (nI 0))) M2)))) ∧ (x1 = (nI 62) → Cl X (d - 1) 0 0 m_X9_pass [vR l1] M1 (fun r M9 => r = none ∧ Ext M1 M9 ∧ Cl X (d - 1) 0 0 m_X9_number [vR l1, vI (nI 0), vI (nI 999), vI (-1)] M9 (fun r M10 => ∃ x8 : Int32, r = some (vI x8) ∧ Ext M9 M10 ∧ ∀ M11 : Mem, M11 = sI M10 l0 2 x8 → (((mI M11 l0 2) = (-1) → Q (some (vI (nI 0))) M11) ∧ (¬ (mI M11 l0 2) = (-1) → Q (some (vI (nI 1))) M11))))))) ∧ (x1 = (nI 60) → Cl X (d - 1) 0 0 m_X9_pass [vR l1] M1 (fun r M12 => r = none ∧ Ext M1 M12 ∧ Cl X (d - 1) 0 0 m_X9_number [vR l1, vI (nI 0), vI (nI 999), vI (-1)] M12 (fun r M13 => ∃ x9 : Int32, r = some (vI x9) ∧ Ext M12 M13 ∧ ∀ M14 : Mem, M14 = sI M13 l0 3 x9 → (((mI M14 l0 3) = (-1) → Q (some (vI (nI 0))) M14) ∧ (¬ (mI M14 l0 3) = (-1) → Q (some (vI (nI 1))) M14)))))))) :
    WA X d kc ns m_X4_readSentence 0 [some (vR l0), some (vR l1), none, none] [] M Q := by
  refine x_aload_n (tk K_X4_readSentence 0 rfl) rfl rfl ?_
  have hS_2 := h.1
  have h := h.2
  refine x_callV0 (As := []) (S := []) (tk K_X4_readSentence 1 rfl) mk_X4_33 mo_X9_peek (TaS.o hS_2) rfl rfl (Nat.le_of_ble_eq_true rfl) hd h (fun r M1 hq => ?_)
  obtain ⟨x1, rfl, hE, h⟩ := hq
  have hT0 := LtS.ext hS hE
  have hT1 := TaS.ext hS_2 hE
  refine x_istore_n (L' := [some (vR _), some (vR _), some (vI _), none]) (tk K_X4_readSentence 2 rfl) rfl rfl (Nat.le_of_ble_eq_true rfl) rfl ?_
  refine x_iload_n (tk K_X4_readSentence 3 rfl) rfl rfl ?_
  refine x_bipush (tk K_X4_readSentence 4 rfl) bp_60 ?_
  refine x_icmp_ne (t := 42) (tk K_X4_readSentence 5 rfl) rfl (fun hc => ?_) (fun hc => ?_)
  · have h := h.1 hc
    refine x_iload_n (tk K_X4_readSentence 23 rfl) rfl rfl ?_
    refine x_bipush (tk K_X4_readSentence 24 rfl) bp_62 ?_
    refine x_icmp_ne (t := 79) (tk K_X4_readSentence 25 rfl) rfl (fun hc => ?_) (fun hc => ?_)
    · have h := h.1 hc
      refine x_aload_n (tk K_X4_readSentence 43 rfl) rfl rfl ?_
      refine x_iconst (tk K_X4_readSentence 44 rfl) ic_0 ?_
      refine x_aload_n (tk K_X4_readSentence 45 rfl) rfl rfl ?_
      refine x_getI (tk K_X4_readSentence 46 rfl) f_X4_64 rfl (LtS.o hT0) ?_
      refine x_iconst (tk K_X4_readSentence 47 rfl) ic_1 ?_
      refine x_isub (tk K_X4_readSentence 48 rfl) ?_
      refine x_iconst (tk K_X4_readSentence 49 rfl) ic_m1 ?_
      refine x_callV0 (As := [vI _, vI _, vI _]) (S := []) (tk K_X4_readSentence 50 rfl) mk_X4_60 mo_X9_number (TaS.o hT1) rfl rfl (Nat.le_of_ble_eq_true rfl) hd h (fun r M2 hq => ?_)
      obtain ⟨x2, rfl, hE, h⟩ := hq
      have hT2 := LtS.ext hT0 hE
      have hT3 := TaS.ext hT1 hE
      refine x_istore_n (L' := [some (vR _), some (vR _), some (vI _), some (vI _)]) (tk K_X4_readSentence 51 rfl) rfl rfl (Nat.le_of_ble_eq_true rfl) rfl ?_
      refine x_iload_n (tk K_X4_readSentence 52 rfl) rfl rfl ?_
      refine x_iconst (tk K_X4_readSentence 53 rfl) ic_m1 ?_
      refine x_icmp_ne (t := 99) (tk K_X4_readSentence 54 rfl) rfl (fun hc => ?_) (fun hc => ?_)
      · have h := h.1 hc
        refine x_aload_n (tk K_X4_readSentence 57 rfl) rfl rfl ?_
        refine x_callV0 (As := []) (S := []) (tk K_X4_readSentence 58 rfl) mk_X4_33 mo_X9_peek (TaS.o hT3) rfl rfl (Nat.le_of_ble_eq_true rfl) hd h (fun r M3 hq => ?_)
        obtain ⟨x3, rfl, hE, h⟩ := hq
        have hT4 := LtS.ext hT2 hE
        have hT5 := TaS.ext hT3 hE
        refine x_istore_n (L' := [some (vR _), some (vR _), some (vI _), some (vI _)]) (tk K_X4_readSentence 59 rfl) rfl rfl (Nat.le_of_ble_eq_true rfl) rfl ?_
        refine x_iload_n (tk K_X4_readSentence 60 rfl) rfl rfl ?_
        refine x_bipush (tk K_X4_readSentence 61 rfl) bp_58 ?_
        refine x_icmp_ne (t := 123) (tk K_X4_readSentence 62 rfl) rfl (fun hc => ?_) (fun hc => ?_)
        · have h := h.1 hc
          refine x_iload_n (tk K_X4_readSentence 72 rfl) rfl rfl ?_
          refine x_bipush (tk K_X4_readSentence 73 rfl) bp_45 ?_
          refine x_icmp_ne (t := 140) (tk K_X4_readSentence 74 rfl) rfl (fun hc => ?_) (fun hc => ?_)
          · have h := h.1 hc
            refine x_iload_n (tk K_X4_readSentence 82 rfl) rfl rfl ?_
            refine x_bipush (tk K_X4_readSentence 83 rfl) bp_61 ?_
            refine x_icmp_ne (t := 159) (tk K_X4_readSentence 84 rfl) rfl (fun hc => ?_) (fun hc => ?_)
            · have h := h.1 hc
              refine x_aload_n (tk K_X4_readSentence 92 rfl) rfl rfl ?_
              refine x_aload_n (tk K_X4_readSentence 93 rfl) rfl rfl ?_
              refine x_getI (tk K_X4_readSentence 94 rfl) f_X4_87 rfl (TaS.o hT5) ?_
              refine x_callV0 (As := [vI _]) (S := []) (tk K_X4_readSentence 95 rfl) mk_X4_90 mo_X9_refuse (TaS.o hT5) rfl rfl (Nat.le_of_ble_eq_true rfl) hd h (fun r M4 hq => ?_)
              obtain ⟨x4, rfl, hE, h⟩ := hq
              have hT6 := LtS.ext hT4 hE
              have hT7 := TaS.ext hT5 hE
              exact x_ireturn (tk K_X4_readSentence 96 rfl) rfl (fitZ h.1).1 h.2
            · have h := h.2 hc
              refine x_aload_n (tk K_X4_readSentence 85 rfl) rfl rfl ?_
              refine x_aload_n (tk K_X4_readSentence 86 rfl) rfl rfl ?_
              refine x_iload_n (tk K_X4_readSentence 87 rfl) rfl rfl ?_
              refine x_aload_n (tk K_X4_readSentence 88 rfl) rfl rfl ?_
              refine x_getRc (tk K_X4_readSentence 89 rfl) f_X4_18 rfl (LtS.o hT4) (LtS.r6 hT4) ?_
              refine x_callV0 (As := [vR _, vI _, vR _]) (S := []) (tk K_X4_readSentence 90 rfl) mk_X4_83 mo_X4_readPair (LtS.o hT4) rfl rfl (Nat.le_of_ble_eq_true rfl) hd h (fun r M5 hq => ?_)
              obtain ⟨x5, rfl, hE, h⟩ := hq
              have hT8 := LtS.ext hT4 hE
              have hT9 := TaS.ext hT5 hE
              have hT10 := hE.1 _ _ _ (LtS.k6 hT4)
              refine x_goto (t := 167) (tk K_X4_readSentence 91 rfl) rfl ?_
              exact x_ireturn (tk K_X4_readSentence 96 rfl) rfl (fitZ h.1).1 h.2
          · have h := h.2 hc
            refine x_aload_n (tk K_X4_readSentence 75 rfl) rfl rfl ?_
            refine x_aload_n (tk K_X4_readSentence 76 rfl) rfl rfl ?_
            refine x_iload_n (tk K_X4_readSentence 77 rfl) rfl rfl ?_
            refine x_aload_n (tk K_X4_readSentence 78 rfl) rfl rfl ?_
            refine x_getRc (tk K_X4_readSentence 79 rfl) f_X4_15 rfl (LtS.o hT4) (LtS.r5 hT4) ?_
            refine x_callV0 (As := [vR _, vI _, vR _]) (S := []) (tk K_X4_readSentence 80 rfl) mk_X4_83 mo_X4_readPair (LtS.o hT4) rfl rfl (Nat.le_of_ble_eq_true rfl) hd h (fun r M6 hq => ?_)
            obtain ⟨x6, rfl, hE, h⟩ := hq
            have hT11 := LtS.ext hT4 hE
            have hT12 := TaS.ext hT5 hE
            have hT13 := hE.1 _ _ _ (LtS.k5 hT4)
            exact x_ireturn (tk K_X4_readSentence 81 rfl) rfl (fitZ h.1).1 h.2
        · have h := h.2 hc
          refine x_aload_n (tk K_X4_readSentence 63 rfl) rfl rfl ?_
          refine x_callV0 (As := []) (S := []) (tk K_X4_readSentence 64 rfl) mk_X4_76 mo_X9_pass (TaS.o hT5) rfl rfl (Nat.le_of_ble_eq_true rfl) hd h (fun r M7 hq => ?_)
          obtain ⟨rfl, hE, h⟩ := hq
          have hT14 := LtS.ext hT4 hE
          have hT15 := TaS.ext hT5 hE
          refine x_aload_n (tk K_X4_readSentence 65 rfl) rfl rfl ?_
          refine x_aload_n (tk K_X4_readSentence 66 rfl) rfl rfl ?_
          refine x_iload_n (tk K_X4_readSentence 67 rfl) rfl rfl ?_
          refine x_iconst (tk K_X4_readSentence 68 rfl) ic_3 ?_
          refine x_imul (tk K_X4_readSentence 69 rfl) ?_
          refine x_callV0 (As := [vR _, vI _]) (S := []) (tk K_X4_readSentence 70 rfl) mk_X4_79 mo_X4_readVotes (LtS.o hT14) rfl rfl (Nat.le_of_ble_eq_true rfl) hd h (fun r M8 hq => ?_)
          obtain ⟨x7, rfl, hE, h⟩ := hq
          have hT16 := LtS.ext hT14 hE
          have hT17 := TaS.ext hT15 hE
          exact x_ireturn (tk K_X4_readSentence 71 rfl) rfl (fitZ h.1).1 h.2
      · have h := h.2 hc
        refine x_iconst (tk K_X4_readSentence 55 rfl) ic_0 ?_
        exact x_ireturn (tk K_X4_readSentence 56 rfl) rfl (fitZ (Or.inl rfl)).1 h
    · have h := h.2 hc
      refine x_aload_n (tk K_X4_readSentence 26 rfl) rfl rfl ?_
      refine x_callV0 (As := []) (S := []) (tk K_X4_readSentence 27 rfl) mk_X4_76 mo_X9_pass (TaS.o hT1) rfl rfl (Nat.le_of_ble_eq_true rfl) hd h (fun r M9 hq => ?_)
      obtain ⟨rfl, hE, h⟩ := hq
      have hT18 := LtS.ext hT0 hE
      have hT19 := TaS.ext hT1 hE
      refine x_aload_n (tk K_X4_readSentence 28 rfl) rfl rfl ?_
      refine x_aload_n (tk K_X4_readSentence 29 rfl) rfl rfl ?_
      refine x_iconst (tk K_X4_readSentence 30 rfl) ic_0 ?_
      refine x_sipush (tk K_X4_readSentence 31 rfl) sp_999 ?_
      refine x_iconst (tk K_X4_readSentence 32 rfl) ic_m1 ?_
      refine x_callV0 (As := [vI _, vI _, vI _]) (S := [vR _]) (tk K_X4_readSentence 33 rfl) mk_X4_60 mo_X9_number (TaS.o hT19) rfl rfl (Nat.le_of_ble_eq_true rfl) hd h (fun r M10 hq => ?_)
      obtain ⟨x8, rfl, hE, h⟩ := hq
      have hT20 := LtS.ext hT18 hE
      have hT21 := TaS.ext hT19 hE
      have h := h _ rfl
      refine x_putI (tk K_X4_readSentence 34 rfl) f_X4_48 rfl (Or.inl rfl) (LtS.o hT20) ?_
      refine x_aload_n (tk K_X4_readSentence 35 rfl) rfl rfl ?_
      refine x_getI (tk K_X4_readSentence 36 rfl) f_X4_48 rfl (LtS.o hT20) ?_
      refine x_iconst (tk K_X4_readSentence 37 rfl) ic_m1 ?_
      refine x_icmp_eq (t := 77) (tk K_X4_readSentence 38 rfl) rfl (fun hc => ?_) (fun hc => ?_)
      · have h := h.1 hc
        refine x_iconst (tk K_X4_readSentence 41 rfl) ic_0 ?_
        exact x_ireturn (tk K_X4_readSentence 42 rfl) rfl (fitZ (Or.inl rfl)).1 h
      · have h := h.2 hc
        refine x_iconst (tk K_X4_readSentence 39 rfl) ic_1 ?_
        refine x_goto (t := 78) (tk K_X4_readSentence 40 rfl) rfl ?_
        exact x_ireturn (tk K_X4_readSentence 42 rfl) rfl (fitZ (Or.inr rfl)).1 h
  · have h := h.2 hc
    refine x_aload_n (tk K_X4_readSentence 6 rfl) rfl rfl ?_
    refine x_callV0 (As := []) (S := []) (tk K_X4_readSentence 7 rfl) mk_X4_76 mo_X9_pass (TaS.o hT1) rfl rfl (Nat.le_of_ble_eq_true rfl) hd h (fun r M12 hq => ?_)
    obtain ⟨rfl, hE, h⟩ := hq
    have hT22 := LtS.ext hT0 hE
    have hT23 := TaS.ext hT1 hE
    refine x_aload_n (tk K_X4_readSentence 8 rfl) rfl rfl ?_
    refine x_aload_n (tk K_X4_readSentence 9 rfl) rfl rfl ?_
    refine x_iconst (tk K_X4_readSentence 10 rfl) ic_0 ?_
    refine x_sipush (tk K_X4_readSentence 11 rfl) sp_999 ?_
    refine x_iconst (tk K_X4_readSentence 12 rfl) ic_m1 ?_
    refine x_callV0 (As := [vI _, vI _, vI _]) (S := [vR _]) (tk K_X4_readSentence 13 rfl) mk_X4_60 mo_X9_number (TaS.o hT23) rfl rfl (Nat.le_of_ble_eq_true rfl) hd h (fun r M13 hq => ?_)
    obtain ⟨x9, rfl, hE, h⟩ := hq
    have hT24 := LtS.ext hT22 hE
    have hT25 := TaS.ext hT23 hE
    have h := h _ rfl
    refine x_putI (tk K_X4_readSentence 14 rfl) f_X4_51 rfl (Or.inl rfl) (LtS.o hT24) ?_
    refine x_aload_n (tk K_X4_readSentence 15 rfl) rfl rfl ?_
    refine x_getI (tk K_X4_readSentence 16 rfl) f_X4_51 rfl (LtS.o hT24) ?_
    refine x_iconst (tk K_X4_readSentence 17 rfl) ic_m1 ?_
    refine x_icmp_eq (t := 40) (tk K_X4_readSentence 18 rfl) rfl (fun hc => ?_) (fun hc => ?_)
    · have h := h.1 hc
      refine x_iconst (tk K_X4_readSentence 21 rfl) ic_0 ?_
      exact x_ireturn (tk K_X4_readSentence 22 rfl) rfl (fitZ (Or.inl rfl)).1 h
    · have h := h.2 hc
      refine x_iconst (tk K_X4_readSentence 19 rfl) ic_1 ?_
      refine x_goto (t := 41) (tk K_X4_readSentence 20 rfl) rfl ?_
      exact x_ireturn (tk K_X4_readSentence 22 rfl) rfl (fitZ (Or.inr rfl)).1 h

theorem e_X4_readSentence {X : Cx} {d kc ns : Nat} {M : Mem} {Q : Option AV → Mem → Prop} {a0 : Nat} {a1 : Nat} (h : WA X d kc ns m_X4_readSentence 0 [some (vR a0), some (vR a1), none, none] [] M Q) : Cl X d kc ns m_X4_readSentence [vR a0, vR a1] M Q := Cl.intro (k := 2) (by decide) rfl rfl h

-- TwoPencils$LandText.readVotes(LTwoPencils$Tape;I)Z
theorem b_X4_readVotes_0 {X : Cx} {d kc ns : Nat} {M : Mem} {Q : Option AV → Mem → Prop} {l0 : Nat} {l1 : Nat} {l2 : Int32} (hS : LtS M l0) (hd : 1 ≤ d)
    (h : TaS M l1 ∧ Cl X (d - 1) 0 0 m_X9_number [vR l1, vI (nI 0), vI (nI 99), vI (-1)] M (fun r M1 => ∃ x1 : Int32, r = some (vI x1) ∧ Ext M M1 ∧ ((x1 = (-1) → Q (some (vI (nI 0))) M1) ∧ (¬ x1 = (-1) → Cl X (d - 1) 0 0 m_X9_take [vR l1, vI (nI 44)] M1 (fun r M2 => ∃ x2 : Int32, r = some (vI x2) ∧ Ext M1 M2 ∧ ((¬ x2 = nI 0 → Cl X (d - 1) 0 0 m_X9_number [vR l1, vI (nI 0), vI (nI 99), vI (-1)] M2 (fun r M3 => ∃ x3 : Int32, r = some (vI x3) ∧ Ext M2 M3 ∧ ((¬ x3 = (-1) → Cl X (d - 1) 0 0 m_X9_peek [vR l1] M3 (fun r M4 => ∃ x4 : Int32, r = some (vI x4) ∧ Ext M3 M4 ∧ ((¬ x4 = (nI 44) → WA X d kc ns m_X4_readVotes 69 [some (vR l0), none, some (vI l2), some (vI x1), some (vI x3), some (vI (nI 0))] [] M4 Q) ∧ (x4 = (nI 44) → Cl X (d - 1) 0 0 m_X9_pass [vR l1] M4 (fun r M5 => r = none ∧ Ext M4 M5 ∧ Cl X (d - 1) 0 0 m_X9_number [vR l1, vI (nI 0), vI (nI 99), vI (-1)] M5 (fun r M6 => ∃ x5 : Int32, r = some (vI x5) ∧ Ext M5 M6 ∧ WA X d kc ns m_X4_readVotes 69 [some (vR l0), none, some (vI l2), some (vI x1), some (vI x3), some (vI x5)] [] M6 Q)))))) ∧ (x3 = (-1) → Q (some (vI (nI 0))) M3)))) ∧ (x2 = nI 0 → Q (some (vI (nI 0))) M2))))))) :
    WA X d kc ns m_X4_readVotes 0 [some (vR l0), some (vR l1), some (vI l2), none, none, none] [] M Q := by
  refine x_aload_n (tk K_X4_readVotes 0 rfl) rfl rfl ?_
  refine x_iconst (tk K_X4_readVotes 1 rfl) ic_0 ?_
  refine x_bipush (tk K_X4_readVotes 2 rfl) bp_99 ?_
  refine x_iconst (tk K_X4_readVotes 3 rfl) ic_m1 ?_
  have hS_2 := h.1
  have h := h.2
  refine x_callV0 (As := [vI _, vI _, vI _]) (S := []) (tk K_X4_readVotes 4 rfl) mk_X4_60 mo_X9_number (TaS.o hS_2) rfl rfl (Nat.le_of_ble_eq_true rfl) hd h (fun r M1 hq => ?_)
  obtain ⟨x1, rfl, hE, h⟩ := hq
  have hT0 := LtS.ext hS hE
  have hT1 := TaS.ext hS_2 hE
  refine x_istore_n (L' := [some (vR _), some (vR _), some (vI _), some (vI _), none, none]) (tk K_X4_readVotes 5 rfl) rfl rfl (Nat.le_of_ble_eq_true rfl) rfl ?_
  refine x_iload_n (tk K_X4_readVotes 6 rfl) rfl rfl ?_
  refine x_iconst (tk K_X4_readVotes 7 rfl) ic_m1 ?_
  refine x_icmp_eq (t := 23) (tk K_X4_readVotes 8 rfl) rfl (fun hc => ?_) (fun hc => ?_)
  · have h := h.1 hc
    refine x_iconst (tk K_X4_readVotes 13 rfl) ic_0 ?_
    exact x_ireturn (tk K_X4_readVotes 14 rfl) rfl (fitZ (Or.inl rfl)).1 h
  · have h := h.2 hc
    refine x_aload_n (tk K_X4_readVotes 9 rfl) rfl rfl ?_
    refine x_bipush (tk K_X4_readVotes 10 rfl) bp_44 ?_
    refine x_callV0 (As := [vI _]) (S := []) (tk K_X4_readVotes 11 rfl) mk_X4_37 mo_X9_take (TaS.o hT1) rfl rfl (Nat.le_of_ble_eq_true rfl) hd h (fun r M2 hq => ?_)
    obtain ⟨x2, rfl, hE, h⟩ := hq
    have hT2 := LtS.ext hT0 hE
    have hT3 := TaS.ext hT1 hE
    refine x_if_ne (t := 25) (tk K_X4_readVotes 12 rfl) rfl (fun hc => ?_) (fun hc => ?_)
    · have h := h.1 hc
      refine x_aload_n (tk K_X4_readVotes 15 rfl) rfl rfl ?_
      refine x_iconst (tk K_X4_readVotes 16 rfl) ic_0 ?_
      refine x_bipush (tk K_X4_readVotes 17 rfl) bp_99 ?_
      refine x_iconst (tk K_X4_readVotes 18 rfl) ic_m1 ?_
      refine x_callV0 (As := [vI _, vI _, vI _]) (S := []) (tk K_X4_readVotes 19 rfl) mk_X4_60 mo_X9_number (TaS.o hT3) rfl rfl (Nat.le_of_ble_eq_true rfl) hd h (fun r M3 hq => ?_)
      obtain ⟨x3, rfl, hE, h⟩ := hq
      have hT4 := LtS.ext hT2 hE
      have hT5 := TaS.ext hT3 hE
      refine x_istore (L' := [some (vR _), some (vR _), some (vI _), some (vI _), some (vI _), none]) (tk K_X4_readVotes 20 rfl) rfl (Nat.le_of_ble_eq_true rfl) rfl ?_
      refine x_iload (tk K_X4_readVotes 21 rfl) rfl ?_
      refine x_iconst (tk K_X4_readVotes 22 rfl) ic_m1 ?_
      refine x_icmp_ne (t := 43) (tk K_X4_readVotes 23 rfl) rfl (fun hc => ?_) (fun hc => ?_)
      · have h := h.1 hc
        refine x_iconst (tk K_X4_readVotes 26 rfl) ic_0 ?_
        refine x_istore (L' := [some (vR _), some (vR _), some (vI _), some (vI _), some (vI _), some (vI _)]) (tk K_X4_readVotes 27 rfl) rfl (Nat.le_of_ble_eq_true rfl) rfl ?_
        refine x_aload_n (tk K_X4_readVotes 28 rfl) rfl rfl ?_
        refine x_callV0 (As := []) (S := []) (tk K_X4_readVotes 29 rfl) mk_X4_33 mo_X9_peek (TaS.o hT5) rfl rfl (Nat.le_of_ble_eq_true rfl) hd h (fun r M4 hq => ?_)
        obtain ⟨x4, rfl, hE, h⟩ := hq
        have hT6 := LtS.ext hT4 hE
        have hT7 := TaS.ext hT5 hE
        refine x_bipush (tk K_X4_readVotes 30 rfl) bp_44 ?_
        refine x_icmp_ne (t := 69) (tk K_X4_readVotes 31 rfl) rfl (fun hc => ?_) (fun hc => ?_)
        · have h := h.1 hc
          refine x_msk [true, false, true, true, true, true] ?_
          exact h
        · have h := h.2 hc
          refine x_aload_n (tk K_X4_readVotes 32 rfl) rfl rfl ?_
          refine x_callV0 (As := []) (S := []) (tk K_X4_readVotes 33 rfl) mk_X4_76 mo_X9_pass (TaS.o hT7) rfl rfl (Nat.le_of_ble_eq_true rfl) hd h (fun r M5 hq => ?_)
          obtain ⟨rfl, hE, h⟩ := hq
          have hT8 := LtS.ext hT6 hE
          have hT9 := TaS.ext hT7 hE
          refine x_aload_n (tk K_X4_readVotes 34 rfl) rfl rfl ?_
          refine x_iconst (tk K_X4_readVotes 35 rfl) ic_0 ?_
          refine x_bipush (tk K_X4_readVotes 36 rfl) bp_99 ?_
          refine x_iconst (tk K_X4_readVotes 37 rfl) ic_m1 ?_
          refine x_callV0 (As := [vI _, vI _, vI _]) (S := []) (tk K_X4_readVotes 38 rfl) mk_X4_60 mo_X9_number (TaS.o hT9) rfl rfl (Nat.le_of_ble_eq_true rfl) hd h (fun r M6 hq => ?_)
          obtain ⟨x5, rfl, hE, h⟩ := hq
          have hT10 := LtS.ext hT8 hE
          have hT11 := TaS.ext hT9 hE
          refine x_istore (L' := [some (vR _), some (vR _), some (vI _), some (vI _), some (vI _), some (vI _)]) (tk K_X4_readVotes 39 rfl) rfl (Nat.le_of_ble_eq_true rfl) rfl ?_
          refine x_msk [true, false, true, true, true, true] ?_
          exact h
      · have h := h.2 hc
        refine x_iconst (tk K_X4_readVotes 24 rfl) ic_0 ?_
        exact x_ireturn (tk K_X4_readVotes 25 rfl) rfl (fitZ (Or.inl rfl)).1 h
    · have h := h.2 hc
      refine x_iconst (tk K_X4_readVotes 13 rfl) ic_0 ?_
      exact x_ireturn (tk K_X4_readVotes 14 rfl) rfl (fitZ (Or.inl rfl)).1 h

theorem b_X4_readVotes_69 {X : Cx} {d kc ns : Nat} {M : Mem} {Q : Option AV → Mem → Prop} {l0 : Nat} {l2 : Int32} {l3 : Int32} {l4 : Int32} {l5 : Int32} (hS : LtS M l0)
    (h : vp_in l2 27 ∧ ∀ M1 : Mem, M1 = sI M (l0 + 1) (ix l2) l3 → vp_in (l2 + (nI 1)) 27 ∧ ∀ M2 : Mem, M2 = sI M1 (l0 + 1) (ix (l2 + (nI 1))) l4 → vp_in (l2 + (nI 2)) 27 ∧ ∀ M3 : Mem, M3 = sI M2 (l0 + 1) (ix (l2 + (nI 2))) l5 → ((l5 = (-1) → Q (some (vI (nI 0))) M3) ∧ (¬ l5 = (-1) → Q (some (vI (nI 1))) M3))) :
    WA X d kc ns m_X4_readVotes 69 [some (vR l0), none, some (vI l2), some (vI l3), some (vI l4), some (vI l5)] [] M Q := by
  refine x_aload_n (tk K_X4_readVotes 40 rfl) rfl rfl ?_
  refine x_getRc (tk K_X4_readVotes 41 rfl) f_X4_9 rfl (LtS.o hS) (LtS.r4 hS) ?_
  refine x_iload_n (tk K_X4_readVotes 42 rfl) rfl rfl ?_
  refine x_iload_n (tk K_X4_readVotes 43 rfl) rfl rfl ?_
  have hi := h.1
  have h := h.2
  have h := h _ rfl
  refine x_iast (tk K_X4_readVotes 44 rfl) (LtS.k4 hS) hi ?_
  refine x_aload_n (tk K_X4_readVotes 45 rfl) rfl rfl ?_
  refine x_getRc (tk K_X4_readVotes 46 rfl) f_X4_9 rfl (LtS.o hS) (LtS.r4 hS) ?_
  refine x_iload_n (tk K_X4_readVotes 47 rfl) rfl rfl ?_
  refine x_iconst (tk K_X4_readVotes 48 rfl) ic_1 ?_
  refine x_iadd (tk K_X4_readVotes 49 rfl) ?_
  refine x_iload (tk K_X4_readVotes 50 rfl) rfl ?_
  have hi := h.1
  have h := h.2
  have h := h _ rfl
  refine x_iast (tk K_X4_readVotes 51 rfl) (LtS.k4 hS) hi ?_
  refine x_aload_n (tk K_X4_readVotes 52 rfl) rfl rfl ?_
  refine x_getRc (tk K_X4_readVotes 53 rfl) f_X4_9 rfl (LtS.o hS) (LtS.r4 hS) ?_
  refine x_iload_n (tk K_X4_readVotes 54 rfl) rfl rfl ?_
  refine x_iconst (tk K_X4_readVotes 55 rfl) ic_2 ?_
  refine x_iadd (tk K_X4_readVotes 56 rfl) ?_
  refine x_iload (tk K_X4_readVotes 57 rfl) rfl ?_
  have hi := h.1
  have h := h.2
  have h := h _ rfl
  refine x_iast (tk K_X4_readVotes 58 rfl) (LtS.k4 hS) hi ?_
  refine x_iload (tk K_X4_readVotes 59 rfl) rfl ?_
  refine x_iconst (tk K_X4_readVotes 60 rfl) ic_m1 ?_
  refine x_icmp_eq (t := 106) (tk K_X4_readVotes 61 rfl) rfl (fun hc => ?_) (fun hc => ?_)
  · have h := h.1 hc
    refine x_iconst (tk K_X4_readVotes 64 rfl) ic_0 ?_
    exact x_ireturn (tk K_X4_readVotes 65 rfl) rfl (fitZ (Or.inl rfl)).1 h
  · have h := h.2 hc
    refine x_iconst (tk K_X4_readVotes 62 rfl) ic_1 ?_
    refine x_goto (t := 107) (tk K_X4_readVotes 63 rfl) rfl ?_
    exact x_ireturn (tk K_X4_readVotes 65 rfl) rfl (fitZ (Or.inr rfl)).1 h

theorem e_X4_readVotes {X : Cx} {d kc ns : Nat} {M : Mem} {Q : Option AV → Mem → Prop} {a0 : Nat} {a1 : Nat} {a2 : Int32} (h : WA X d kc ns m_X4_readVotes 0 [some (vR a0), some (vR a1), some (vI a2), none, none, none] [] M Q) : Cl X d kc ns m_X4_readVotes [vR a0, vR a1, vI a2] M Q := Cl.intro (k := 3) (by decide) rfl rfl h

-- TwoPencils$LandText.readPair(LTwoPencils$Tape;I[I)Z
theorem b_X4_readPair_0 {X : Cx} {d kc ns : Nat} {M : Mem} {Q : Option AV → Mem → Prop} {l0 : Nat} {l1 : Nat} {l2 : Int32} {l3 : Nat} (hS : LtS M l0) (hd : 1 ≤ d)
    (h : TaS M l1 ∧ Cl X (d - 1) 0 0 m_X9_pass [vR l1] M (fun r M1 => r = none ∧ Ext M M1 ∧ Cl X (d - 1) 0 0 m_X9_number [vR l1, vI (nI 0), vI ((mI M1 l0 0) - (nI 1)), vI l2] M1 (fun r M2 => ∃ x1 : Int32, r = some (vI x1) ∧ Ext M1 M2 ∧ ((¬ x1 = (-1) → ∃ n2 : Nat, isK M2 l3 14 n2 ∧ vp_in l2 n2 ∧ vp_in l2 n2 ∧ ∀ M3 : Mem, M3 = sI M2 l3 (ix l2) ((mI M2 l3 (ix l2)) ||| (shl (nI 1) x1)) → vp_in x1 n2 ∧ vp_in x1 n2 ∧ ∀ M4 : Mem, M4 = sI M3 l3 (ix x1) ((mI M3 l3 (ix x1)) ||| (shl (nI 1) l2)) → Q (some (vI (nI 1))) M4) ∧ (x1 = (-1) → Q (some (vI (nI 0))) M2))))) :
    WA X d kc ns m_X4_readPair 0 [some (vR l0), some (vR l1), some (vI l2), some (vR l3), none] [] M Q := by
  refine x_aload_n (tk K_X4_readPair 0 rfl) rfl rfl ?_
  have hS_2 := h.1
  have h := h.2
  refine x_callV0 (As := []) (S := []) (tk K_X4_readPair 1 rfl) mk_X4_76 mo_X9_pass (TaS.o hS_2) rfl rfl (Nat.le_of_ble_eq_true rfl) hd h (fun r M1 hq => ?_)
  obtain ⟨rfl, hE, h⟩ := hq
  have hT0 := LtS.ext hS hE
  have hT1 := TaS.ext hS_2 hE
  refine x_aload_n (tk K_X4_readPair 2 rfl) rfl rfl ?_
  refine x_iconst (tk K_X4_readPair 3 rfl) ic_0 ?_
  refine x_aload_n (tk K_X4_readPair 4 rfl) rfl rfl ?_
  refine x_getI (tk K_X4_readPair 5 rfl) f_X4_64 rfl (LtS.o hT0) ?_
  refine x_iconst (tk K_X4_readPair 6 rfl) ic_1 ?_
  refine x_isub (tk K_X4_readPair 7 rfl) ?_
  refine x_iload_n (tk K_X4_readPair 8 rfl) rfl rfl ?_
  refine x_callV0 (As := [vI _, vI _, vI _]) (S := []) (tk K_X4_readPair 9 rfl) mk_X4_60 mo_X9_number (TaS.o hT1) rfl rfl (Nat.le_of_ble_eq_true rfl) hd h (fun r M2 hq => ?_)
  obtain ⟨x1, rfl, hE, h⟩ := hq
  have hT2 := LtS.ext hT0 hE
  have hT3 := TaS.ext hT1 hE
  refine x_istore (L' := [some (vR _), some (vR _), some (vI _), some (vR _), some (vI _)]) (tk K_X4_readPair 10 rfl) rfl (Nat.le_of_ble_eq_true rfl) rfl ?_
  refine x_iload (tk K_X4_readPair 11 rfl) rfl ?_
  refine x_iconst (tk K_X4_readPair 12 rfl) ic_m1 ?_
  refine x_icmp_ne (t := 26) (tk K_X4_readPair 13 rfl) rfl (fun hc => ?_) (fun hc => ?_)
  · have h := h.1 hc
    refine x_aload_n (tk K_X4_readPair 16 rfl) rfl rfl ?_
    refine x_iload_n (tk K_X4_readPair 17 rfl) rfl rfl ?_
    refine x_dup2 (tk K_X4_readPair 18 rfl) rfl rfl ?_
    obtain ⟨n2, hA_n2, h⟩ := h
    have hi := h.1
    have h := h.2
    refine x_iald (tk K_X4_readPair 19 rfl) hA_n2 hi ?_
    refine x_iconst (tk K_X4_readPair 20 rfl) ic_1 ?_
    refine x_iload (tk K_X4_readPair 21 rfl) rfl ?_
    refine x_ishl (tk K_X4_readPair 22 rfl) ?_
    refine x_ior (tk K_X4_readPair 23 rfl) ?_
    have hi := h.1
    have h := h.2
    have h := h _ rfl
    refine x_iast (tk K_X4_readPair 24 rfl) hA_n2 hi ?_
    refine x_aload_n (tk K_X4_readPair 25 rfl) rfl rfl ?_
    refine x_iload (tk K_X4_readPair 26 rfl) rfl ?_
    refine x_dup2 (tk K_X4_readPair 27 rfl) rfl rfl ?_
    have hi := h.1
    have h := h.2
    refine x_iald (tk K_X4_readPair 28 rfl) hA_n2 hi ?_
    refine x_iconst (tk K_X4_readPair 29 rfl) ic_1 ?_
    refine x_iload_n (tk K_X4_readPair 30 rfl) rfl rfl ?_
    refine x_ishl (tk K_X4_readPair 31 rfl) ?_
    refine x_ior (tk K_X4_readPair 32 rfl) ?_
    have hi := h.1
    have h := h.2
    have h := h _ rfl
    refine x_iast (tk K_X4_readPair 33 rfl) hA_n2 hi ?_
    refine x_iconst (tk K_X4_readPair 34 rfl) ic_1 ?_
    exact x_ireturn (tk K_X4_readPair 35 rfl) rfl (fitZ (Or.inr rfl)).1 h
  · have h := h.2 hc
    refine x_iconst (tk K_X4_readPair 14 rfl) ic_0 ?_
    exact x_ireturn (tk K_X4_readPair 15 rfl) rfl (fitZ (Or.inl rfl)).1 h

theorem e_X4_readPair {X : Cx} {d kc ns : Nat} {M : Mem} {Q : Option AV → Mem → Prop} {a0 : Nat} {a1 : Nat} {a2 : Int32} {a3 : Nat} (h : WA X d kc ns m_X4_readPair 0 [some (vR a0), some (vR a1), some (vI a2), some (vR a3), none] [] M Q) : Cl X d kc ns m_X4_readPair [vR a0, vR a1, vI a2, vR a3] M Q := Cl.intro (k := 1) (by decide) rfl rfl h

-- TwoPencils$Protocol.<init>(LTwoPencils$ProtocolText;)V
theorem b_X6_init_0 {X : Cx} {d kc ns : Nat} {M : Mem} {Q : Option AV → Mem → Prop} {l0 : Nat} {l1 : Nat} (hS : isK M l0 6 2) (hd : 1 ≤ d)
    (h : vp_in (nI 4) 65536 ∧ 1 ≤ kc ∧ ix (nI 4) ≤ ns ∧ ∀ M1 : Mem, M1 = nw M 14 (ix (nI 4)) → ∀ M2 : Mem, M2 = sR M1 l0 0 (nx M) → vp_in (nI 4) 65536 ∧ 1 ≤ (kc - 1) ∧ ix (nI 4) ≤ (ns - ix (nI 4)) ∧ ∀ M3 : Mem, M3 = nw M2 14 (ix (nI 4)) → ∀ M4 : Mem, M4 = sR M3 l0 1 (nx M2) → WA X d ((kc - 1) - 1) ((ns - ix (nI 4)) - ix (nI 4)) m_X6_init 20 [some (vR l0), some (vR l1), some (vI (nI 0))] [] M4 Q) :
    WA X d kc ns m_X6_init 0 [some (vR l0), some (vR l1), none] [] M Q := by
  refine x_aload_n (tk K_X6_init 0 rfl) rfl rfl ?_
  refine x_objInit (tk K_X6_init 1 rfl) oi_X6_3 oi_in oi_code hS (by decide) hd ?_
  refine x_aload_n (tk K_X6_init 2 rfl) rfl rfl ?_
  refine x_iconst (tk K_X6_init 3 rfl) ic_4 ?_
  have hx := h.1
  have hk := h.2.1
  have hn := h.2.2.1
  have h := h.2.2.2
  refine x_newa (k := 14) (tk K_X6_init 4 rfl) rfl ac_14 hx hk hn ?_
  refine WA_nm (fun M1 e_M1 => ?_)
  have h := h M1 e_M1
  have hT1 : isK M1 (nx M) 14 (ix (nI 4)) := by rw [e_M1]; exact isK_nw
  have hT2 : isK M1 l0 6 2 := by rw [e_M1]; exact (isK_nw_old hS)
  refine x_putR (tk K_X6_init 5 rfl) f_X6_9 rfl rfl (Or.inr ⟨rfl, rfl, rfl, l_X6_9⟩) hT2 ?_
  refine WA_nm (fun M2 e_M2 => ?_)
  have h := h M2 e_M2
  have hT3 : isK M2 l0 6 2 := by rw [e_M2]; exact hT2
  refine x_aload_n (tk K_X6_init 6 rfl) rfl rfl ?_
  refine x_iconst (tk K_X6_init 7 rfl) ic_4 ?_
  have hx := h.1
  have hk := h.2.1
  have hn := h.2.2.1
  have h := h.2.2.2
  refine x_newa (k := 14) (tk K_X6_init 8 rfl) rfl ac_14 hx hk hn ?_
  refine WA_nm (fun M3 e_M3 => ?_)
  have h := h M3 e_M3
  have hT5 : isK M3 (nx M2) 14 (ix (nI 4)) := by rw [e_M3]; exact isK_nw
  have hT6 : isK M3 l0 6 2 := by rw [e_M3]; exact (isK_nw_old hT3)
  refine x_putR (tk K_X6_init 9 rfl) f_X6_15 rfl rfl (Or.inr ⟨rfl, rfl, rfl, l_X6_15⟩) hT6 ?_
  refine WA_nm (fun M4 e_M4 => ?_)
  have h := h M4 e_M4
  have hT7 : isK M4 l0 6 2 := by rw [e_M4]; exact hT6
  refine x_iconst (tk K_X6_init 10 rfl) ic_0 ?_
  refine x_istore_n (L' := [some (vR _), some (vR _), some (vI _)]) (tk K_X6_init 11 rfl) rfl rfl (Nat.le_of_ble_eq_true rfl) rfl ?_
  exact h

theorem b_X6_init_20 {X : Cx} {d kc ns : Nat} {M : Mem} {Q : Option AV → Mem → Prop} {l0 : Nat} {l1 : Nat} {l2 : Int32} (hS : isK M l0 6 2)
    (h : (((nI 4) ≤ l2 → Q none M) ∧ (¬ (nI 4) ≤ l2 → isK M l1 7 3 ∧ (((mI M l1 0) ≤ nI 0 → Q none M) ∧ (¬ (mI M l1 0) ≤ nI 0 → ¬ (mI M l1 0) = nI 0 ∧ ∃ n2 : Nat, isK M (mR M l1 1) 14 n2 ∧ vp_in (remI l2 (mI M l1 0)) n2 ∧ ∃ n3 : Nat, isK M (mR M l0 0) 14 n3 ∧ vp_in l2 n3 ∧ ∀ M1 : Mem, M1 = sI M (mR M l0 0) (ix l2) (mI M (mR M l1 1) (ix (remI l2 (mI M l1 0)))) → ¬ (mI M1 l1 0) = nI 0 ∧ ∃ n4 : Nat, isK M1 (mR M1 l1 2) 14 n4 ∧ vp_in (remI l2 (mI M1 l1 0)) n4 ∧ ∃ n5 : Nat, isK M1 (mR M1 l0 1) 14 n5 ∧ vp_in l2 n5 ∧ ∀ M2 : Mem, M2 = sI M1 (mR M1 l0 1) (ix l2) (mI M1 (mR M1 l1 2) (ix (remI l2 (mI M1 l1 0)))) → WA X d kc ns m_X6_init 20 [some (vR l0), some (vR l1), some (vI (l2 + (nI 1)))] [] M2 Q))))) :
    WA X d kc ns m_X6_init 20 [some (vR l0), some (vR l1), some (vI l2)] [] M Q := by
  refine x_iload_n (tk K_X6_init 12 rfl) rfl rfl ?_
  refine x_iconst (tk K_X6_init 13 rfl) ic_4 ?_
  refine x_icmp_ge (t := 72) (tk K_X6_init 14 rfl) rfl (fun hc => ?_) (fun hc => ?_)
  · have h := h.1 hc
    exact x_return (tk K_X6_init 42 rfl) rfl h
  · have h := h.2 hc
    refine x_aload_n (tk K_X6_init 15 rfl) rfl rfl ?_
    have hO_0 := h.1
    have h := h.2
    refine x_getI (tk K_X6_init 16 rfl) f_X6_18 rfl hO_0 ?_
    refine x_if_le (t := 72) (tk K_X6_init 17 rfl) rfl (fun hc => ?_) (fun hc => ?_)
    · have h := h.1 hc
      exact x_return (tk K_X6_init 42 rfl) rfl h
    · have h := h.2 hc
      refine x_aload_n (tk K_X6_init 18 rfl) rfl rfl ?_
      refine x_getR (tk K_X6_init 19 rfl) f_X6_9 rfl hS ?_
      refine x_iload_n (tk K_X6_init 20 rfl) rfl rfl ?_
      refine x_aload_n (tk K_X6_init 21 rfl) rfl rfl ?_
      refine x_getR (tk K_X6_init 22 rfl) f_X6_24 rfl hO_0 ?_
      refine x_iload_n (tk K_X6_init 23 rfl) rfl rfl ?_
      refine x_aload_n (tk K_X6_init 24 rfl) rfl rfl ?_
      refine x_getI (tk K_X6_init 25 rfl) f_X6_18 rfl hO_0 ?_
      refine x_iremR (tk K_X6_init 26 rfl) h.1 ?_
      have h := h.2
      obtain ⟨n2, hA_n2, h⟩ := h
      have hi := h.1
      have h := h.2
      refine x_iald (tk K_X6_init 27 rfl) hA_n2 hi ?_
      obtain ⟨n3, hA_n3, h⟩ := h
      have hi := h.1
      have h := h.2
      refine x_iast (tk K_X6_init 28 rfl) hA_n3 hi ?_
      refine WA_nm (fun M1 e_M1 => ?_)
      have h := h M1 e_M1
      have hT0 : isK M1 l0 6 2 := by rw [e_M1]; exact hS
      have hT1 : isK M1 l1 7 3 := by rw [e_M1]; exact hO_0
      refine x_aload_n (tk K_X6_init 29 rfl) rfl rfl ?_
      refine x_getR (tk K_X6_init 30 rfl) f_X6_15 rfl hT0 ?_
      refine x_iload_n (tk K_X6_init 31 rfl) rfl rfl ?_
      refine x_aload_n (tk K_X6_init 32 rfl) rfl rfl ?_
      refine x_getR (tk K_X6_init 33 rfl) f_X6_25 rfl hT1 ?_
      refine x_iload_n (tk K_X6_init 34 rfl) rfl rfl ?_
      refine x_aload_n (tk K_X6_init 35 rfl) rfl rfl ?_
      refine x_getI (tk K_X6_init 36 rfl) f_X6_18 rfl hT1 ?_
      refine x_iremR (tk K_X6_init 37 rfl) h.1 ?_
      have h := h.2
      obtain ⟨n4, hA_n4, h⟩ := h
      have hi := h.1
      have h := h.2
      refine x_iald (tk K_X6_init 38 rfl) hA_n4 hi ?_
      obtain ⟨n5, hA_n5, h⟩ := h
      have hi := h.1
      have h := h.2
      refine x_iast (tk K_X6_init 39 rfl) hA_n5 hi ?_
      refine WA_nm (fun M2 e_M2 => ?_)
      have h := h M2 e_M2
      have hT2 : isK M2 l0 6 2 := by rw [e_M2]; exact hT0
      have hT3 : isK M2 l1 7 3 := by rw [e_M2]; exact hT1
      refine x_iincW (L' := [some (vR _), some (vR _), some (vI _)]) (tk K_X6_init 40 rfl) rfl ic_1 rfl (Nat.le_of_ble_eq_true rfl) rfl ?_
      refine x_goto (t := 20) (tk K_X6_init 41 rfl) rfl ?_
      exact h

theorem e_X6_init {X : Cx} {d kc ns : Nat} {M : Mem} {Q : Option AV → Mem → Prop} {a0 : Nat} {a1 : Nat} (h : WA X d kc ns m_X6_init 0 [some (vR a0), some (vR a1), none] [] M Q) : Cl X d kc ns m_X6_init [vR a0, vR a1] M Q := Cl.intro (k := 1) (by decide) rfl rfl h

-- TwoPencils$ProtocolText.<init>()V
theorem b_X7_init_0 {X : Cx} {d kc ns : Nat} {M : Mem} {Q : Option AV → Mem → Prop} {l0 : Nat} (hS : isK M l0 7 3) (hd : 1 ≤ d)
    (h : vp_in (nI 6) 65536 ∧ 1 ≤ kc ∧ ix (nI 6) ≤ ns ∧ ∀ M1 : Mem, M1 = nw M 14 (ix (nI 6)) → ∀ M2 : Mem, M2 = sR M1 l0 1 (nx M) → vp_in (nI 6) 65536 ∧ 1 ≤ (kc - 1) ∧ ix (nI 6) ≤ (ns - ix (nI 6)) ∧ ∀ M3 : Mem, M3 = nw M2 14 (ix (nI 6)) → ∀ M4 : Mem, M4 = sR M3 l0 2 (nx M2) → Q none M4) :
    WA X d kc ns m_X7_init 0 [some (vR l0)] [] M Q := by
  refine x_aload_n (tk K_X7_init 0 rfl) rfl rfl ?_
  refine x_objInit (tk K_X7_init 1 rfl) oi_X7_3 oi_in oi_code hS (by decide) hd ?_
  refine x_aload_n (tk K_X7_init 2 rfl) rfl rfl ?_
  refine x_bipush (tk K_X7_init 3 rfl) bp_6 ?_
  have hx := h.1
  have hk := h.2.1
  have hn := h.2.2.1
  have h := h.2.2.2
  refine x_newa (k := 14) (tk K_X7_init 4 rfl) rfl ac_14 hx hk hn ?_
  refine WA_nm (fun M1 e_M1 => ?_)
  have h := h M1 e_M1
  have hT1 : isK M1 (nx M) 14 (ix (nI 6)) := by rw [e_M1]; exact isK_nw
  have hT2 : isK M1 l0 7 3 := by rw [e_M1]; exact (isK_nw_old hS)
  refine x_putR (tk K_X7_init 5 rfl) f_X7_9 rfl rfl (Or.inr ⟨rfl, rfl, rfl, l_X7_9⟩) hT2 ?_
  refine WA_nm (fun M2 e_M2 => ?_)
  have h := h M2 e_M2
  have hT3 : isK M2 l0 7 3 := by rw [e_M2]; exact hT2
  refine x_aload_n (tk K_X7_init 6 rfl) rfl rfl ?_
  refine x_bipush (tk K_X7_init 7 rfl) bp_6 ?_
  have hx := h.1
  have hk := h.2.1
  have hn := h.2.2.1
  have h := h.2.2.2
  refine x_newa (k := 14) (tk K_X7_init 8 rfl) rfl ac_14 hx hk hn ?_
  refine WA_nm (fun M3 e_M3 => ?_)
  have h := h M3 e_M3
  have hT5 : isK M3 (nx M2) 14 (ix (nI 6)) := by rw [e_M3]; exact isK_nw
  have hT6 : isK M3 l0 7 3 := by rw [e_M3]; exact (isK_nw_old hT3)
  refine x_putR (tk K_X7_init 9 rfl) f_X7_15 rfl rfl (Or.inr ⟨rfl, rfl, rfl, l_X7_15⟩) hT6 ?_
  refine WA_nm (fun M4 e_M4 => ?_)
  have h := h M4 e_M4
  have hT7 : isK M4 l0 7 3 := by rw [e_M4]; exact hT6
  exact x_return (tk K_X7_init 10 rfl) rfl h

theorem e_X7_init {X : Cx} {d kc ns : Nat} {M : Mem} {Q : Option AV → Mem → Prop} {a0 : Nat} (h : WA X d kc ns m_X7_init 0 [some (vR a0)] [] M Q) : Cl X d kc ns m_X7_init [vR a0] M Q := Cl.intro (k := 0) (by decide) rfl rfl h

-- TwoPencils$ProtocolText.read(LTwoPencils$Tape;)I
theorem b_X7_read_0 {X : Cx} {d kc ns : Nat} {M : Mem} {Q : Option AV → Mem → Prop} {l0 : Nat} {l1 : Nat} (hS : PtS M l0) (hd : 1 ≤ d)
    (h : ∀ M1 : Mem, M1 = sI M l0 0 (nI 0) → TaS M1 l1 ∧ Cl X (d - 1) 0 0 m_X9_rewind [vR l1] M1 (fun r M2 => r = none ∧ Ext M1 M2 ∧ Cl X (d - 1) 0 0 m_X7_readRound [vR l0, vR l1] M2 (fun r M3 => ∃ x1 : Int32, r = some (vI x1) ∧ Ext M2 M3 ∧ WA X d kc ns m_X7_read 17 [some (vR l0), some (vR l1), some (vI x1), some (vI (nI 0))] [] M3 Q))) :
    WA X d kc ns m_X7_read 0 [some (vR l0), some (vR l1), none, none] [] M Q := by
  refine x_aload_n (tk K_X7_read 0 rfl) rfl rfl ?_
  refine x_iconst (tk K_X7_read 1 rfl) ic_0 ?_
  have h := h _ rfl
  refine x_putI (tk K_X7_read 2 rfl) f_X7_18 rfl (Or.inl rfl) (PtS.o hS) ?_
  refine x_aload_n (tk K_X7_read 3 rfl) rfl rfl ?_
  have hS_2 := h.1
  have h := h.2
  refine x_callV0 (As := []) (S := []) (tk K_X7_read 4 rfl) mk_X7_22 mo_X9_rewind (TaS.o hS_2) rfl rfl (Nat.le_of_ble_eq_true rfl) hd h (fun r M2 hq => ?_)
  obtain ⟨rfl, hE, h⟩ := hq
  have hT0 := PtS.ext hS hE
  have hT1 := TaS.ext hS_2 hE
  refine x_aload_n (tk K_X7_read 5 rfl) rfl rfl ?_
  refine x_aload_n (tk K_X7_read 6 rfl) rfl rfl ?_
  refine x_callV0 (As := [vR _]) (S := []) (tk K_X7_read 7 rfl) mk_X7_27 mo_X7_readRound (PtS.o hT0) rfl rfl (Nat.le_of_ble_eq_true rfl) hd h (fun r M3 hq => ?_)
  obtain ⟨x1, rfl, hE, h⟩ := hq
  have hT2 := PtS.ext hT0 hE
  have hT3 := TaS.ext hT1 hE
  refine x_istore_n (L' := [some (vR _), some (vR _), some (vI _), none]) (tk K_X7_read 8 rfl) rfl rfl (Nat.le_of_ble_eq_true rfl) rfl ?_
  refine x_iconst (tk K_X7_read 9 rfl) ic_0 ?_
  refine x_istore_n (L' := [some (vR _), some (vR _), some (vI _), some (vI _)]) (tk K_X7_read 10 rfl) rfl rfl (Nat.le_of_ble_eq_true rfl) rfl ?_
  exact h

theorem b_X7_read_17 {X : Cx} {d kc ns : Nat} {M : Mem} {Q : Option AV → Mem → Prop} {l0 : Nat} {l1 : Nat} {l2 : Int32} {l3 : Int32} (hS : PtS M l0) (hd : 1 ≤ d)
    (h : (((nI 300) ≤ l3 → TaS M l1 ∧ Q (some (vI (mI M l1 3))) M) ∧ (¬ (nI 300) ≤ l3 → ((l2 = nI 0 → TaS M l1 ∧ Q (some (vI (mI M l1 3))) M) ∧ (¬ l2 = nI 0 → TaS M l1 ∧ Cl X (d - 1) 0 0 m_X9_peek [vR l1] M (fun r M1 => ∃ x1 : Int32, r = some (vI x1) ∧ Ext M M1 ∧ ((x1 = nI 0 → Q (some (vI (mI M1 l1 3))) M1) ∧ (¬ x1 = nI 0 → Cl X (d - 1) 0 0 m_X9_take [vR l1, vI (nI 44)] M1 (fun r M2 => ∃ x2 : Int32, r = some (vI x2) ∧ Ext M1 M2 ∧ ((x2 = nI 0 → WA X d kc ns m_X7_read 17 [some (vR l0), some (vR l1), some (vI (nI 0)), some (vI (l3 + (nI 1)))] [] M2 Q) ∧ (¬ x2 = nI 0 → Cl X (d - 1) 0 0 m_X7_readRound [vR l0, vR l1] M2 (fun r M3 => ∃ x3 : Int32, r = some (vI x3) ∧ Ext M2 M3 ∧ ((x3 = nI 0 → WA X d kc ns m_X7_read 17 [some (vR l0), some (vR l1), some (vI (nI 0)), some (vI (l3 + (nI 1)))] [] M3 Q) ∧ (¬ x3 = nI 0 → WA X d kc ns m_X7_read 17 [some (vR l0), some (vR l1), some (vI (nI 1)), some (vI (l3 + (nI 1)))] [] M3 Q)))))))))))))) :
    WA X d kc ns m_X7_read 17 [some (vR l0), some (vR l1), some (vI l2), some (vI l3)] [] M Q := by
  refine x_iload_n (tk K_X7_read 11 rfl) rfl rfl ?_
  refine x_sipush (tk K_X7_read 12 rfl) sp_300 ?_
  refine x_icmp_ge (t := 64) (tk K_X7_read 13 rfl) rfl (fun hc => ?_) (fun hc => ?_)
  · have h := h.1 hc
    refine x_aload_n (tk K_X7_read 33 rfl) rfl rfl ?_
    have hS_2 := h.1
    have h := h.2
    refine x_getI (tk K_X7_read 34 rfl) f_X7_39 rfl (TaS.o hS_2) ?_
    exact x_ireturn (tk K_X7_read 35 rfl) rfl rfl h
  · have h := h.2 hc
    refine x_iload_n (tk K_X7_read 14 rfl) rfl rfl ?_
    refine x_if_eq (t := 64) (tk K_X7_read 15 rfl) rfl (fun hc => ?_) (fun hc => ?_)
    · have h := h.1 hc
      refine x_aload_n (tk K_X7_read 33 rfl) rfl rfl ?_
      have hS_22 := h.1
      have h := h.2
      refine x_getI (tk K_X7_read 34 rfl) f_X7_39 rfl (TaS.o hS_22) ?_
      exact x_ireturn (tk K_X7_read 35 rfl) rfl rfl h
    · have h := h.2 hc
      refine x_aload_n (tk K_X7_read 16 rfl) rfl rfl ?_
      have hS_42 := h.1
      have h := h.2
      refine x_callV0 (As := []) (S := []) (tk K_X7_read 17 rfl) mk_X7_31 mo_X9_peek (TaS.o hS_42) rfl rfl (Nat.le_of_ble_eq_true rfl) hd h (fun r M1 hq => ?_)
      obtain ⟨x1, rfl, hE, h⟩ := hq
      have hT0 := PtS.ext hS hE
      have hT1 := TaS.ext hS_42 hE
      refine x_if_eq (t := 64) (tk K_X7_read 18 rfl) rfl (fun hc => ?_) (fun hc => ?_)
      · have h := h.1 hc
        refine x_aload_n (tk K_X7_read 33 rfl) rfl rfl ?_
        refine x_getI (tk K_X7_read 34 rfl) f_X7_39 rfl (TaS.o hT1) ?_
        exact x_ireturn (tk K_X7_read 35 rfl) rfl rfl h
      · have h := h.2 hc
        refine x_aload_n (tk K_X7_read 19 rfl) rfl rfl ?_
        refine x_bipush (tk K_X7_read 20 rfl) bp_44 ?_
        refine x_callV0 (As := [vI _]) (S := []) (tk K_X7_read 21 rfl) mk_X7_35 mo_X9_take (TaS.o hT1) rfl rfl (Nat.le_of_ble_eq_true rfl) hd h (fun r M2 hq => ?_)
        obtain ⟨x2, rfl, hE, h⟩ := hq
        have hT2 := PtS.ext hT0 hE
        have hT3 := TaS.ext hT1 hE
        refine x_if_eq (t := 56) (tk K_X7_read 22 rfl) rfl (fun hc => ?_) (fun hc => ?_)
        · have h := h.1 hc
          refine x_iconst (tk K_X7_read 29 rfl) ic_0 ?_
          refine x_istore_n (L' := [some (vR _), some (vR _), some (vI _), some (vI _)]) (tk K_X7_read 30 rfl) rfl rfl (Nat.le_of_ble_eq_true rfl) rfl ?_
          refine x_iincW (L' := [some (vR _), some (vR _), some (vI _), some (vI _)]) (tk K_X7_read 31 rfl) rfl ic_1 rfl (Nat.le_of_ble_eq_true rfl) rfl ?_
          refine x_goto (t := 17) (tk K_X7_read 32 rfl) rfl ?_
          exact h
        · have h := h.2 hc
          refine x_aload_n (tk K_X7_read 23 rfl) rfl rfl ?_
          refine x_aload_n (tk K_X7_read 24 rfl) rfl rfl ?_
          refine x_callV0 (As := [vR _]) (S := []) (tk K_X7_read 25 rfl) mk_X7_27 mo_X7_readRound (PtS.o hT2) rfl rfl (Nat.le_of_ble_eq_true rfl) hd h (fun r M3 hq => ?_)
          obtain ⟨x3, rfl, hE, h⟩ := hq
          have hT4 := PtS.ext hT2 hE
          have hT5 := TaS.ext hT3 hE
          refine x_if_eq (t := 56) (tk K_X7_read 26 rfl) rfl (fun hc => ?_) (fun hc => ?_)
          · have h := h.1 hc
            refine x_iconst (tk K_X7_read 29 rfl) ic_0 ?_
            refine x_istore_n (L' := [some (vR _), some (vR _), some (vI _), some (vI _)]) (tk K_X7_read 30 rfl) rfl rfl (Nat.le_of_ble_eq_true rfl) rfl ?_
            refine x_iincW (L' := [some (vR _), some (vR _), some (vI _), some (vI _)]) (tk K_X7_read 31 rfl) rfl ic_1 rfl (Nat.le_of_ble_eq_true rfl) rfl ?_
            refine x_goto (t := 17) (tk K_X7_read 32 rfl) rfl ?_
            exact h
          · have h := h.2 hc
            refine x_iconst (tk K_X7_read 27 rfl) ic_1 ?_
            refine x_goto (t := 57) (tk K_X7_read 28 rfl) rfl ?_
            refine x_istore_n (L' := [some (vR _), some (vR _), some (vI _), some (vI _)]) (tk K_X7_read 30 rfl) rfl rfl (Nat.le_of_ble_eq_true rfl) rfl ?_
            refine x_iincW (L' := [some (vR _), some (vR _), some (vI _), some (vI _)]) (tk K_X7_read 31 rfl) rfl ic_1 rfl (Nat.le_of_ble_eq_true rfl) rfl ?_
            refine x_goto (t := 17) (tk K_X7_read 32 rfl) rfl ?_
            exact h

theorem e_X7_read {X : Cx} {d kc ns : Nat} {M : Mem} {Q : Option AV → Mem → Prop} {a0 : Nat} {a1 : Nat} (h : WA X d kc ns m_X7_read 0 [some (vR a0), some (vR a1), none, none] [] M Q) : Cl X d kc ns m_X7_read [vR a0, vR a1] M Q := Cl.intro (k := 2) (by decide) rfl rfl h

-- TwoPencils$ProtocolText.readRound(LTwoPencils$Tape;)Z
theorem b_X7_readRound_0 {X : Cx} {d kc ns : Nat} {M : Mem} {Q : Option AV → Mem → Prop} {l0 : Nat} {l1 : Nat} (hS : PtS M l0) (hd : 1 ≤ d)
    (h : TaS M l1 ∧ Cl X (d - 1) 0 0 m_X9_peek [vR l1] M (fun r M1 => ∃ x1 : Int32, r = some (vI x1) ∧ Ext M M1 ∧ Cl X (d - 1) 0 0 m_X7_playerOf [vI x1] M1 (fun r M2 => ∃ x2 : Int32, r = some (vI x2) ∧ Ext M1 M2 ∧ ((x2 = (-1) → WA X d kc ns m_X7_readRound 22 [some (vR l0), some (vR l1), none, none] [] M2 Q) ∧ (¬ x2 = (-1) → (((mI M2 l0 0) < (nI 6) → Cl X (d - 1) 0 0 m_X9_pass [vR l1] M2 (fun r M3 => r = none ∧ Ext M2 M3 ∧ Cl X (d - 1) 0 0 m_X9_peek [vR l1] M3 (fun r M4 => ∃ x3 : Int32, r = some (vI x3) ∧ Ext M3 M4 ∧ Cl X (d - 1) 0 0 m_X7_kindOf [vI x3] M4 (fun r M5 => ∃ x4 : Int32, r = some (vI x4) ∧ Ext M4 M5 ∧ ((x4 = (nI 2) → WA X d kc ns m_X7_readRound 78 [some (vR l0), none, some (vI x2), some (vI x4)] [] M5 Q) ∧ (¬ x4 = (nI 2) → Cl X (d - 1) 0 0 m_X9_pass [vR l1] M5 (fun r M6 => r = none ∧ Ext M5 M6 ∧ Cl X (d - 1) 0 0 m_X9_peek [vR l1] M6 (fun r M7 => ∃ x5 : Int32, r = some (vI x5) ∧ Ext M6 M7 ∧ Cl X (d - 1) 0 0 m_X7_playerOf [vI x5] M7 (fun r M8 => ∃ x6 : Int32, r = some (vI x6) ∧ Ext M7 M8 ∧ ((x6 = ((nI 1) - x2) → Cl X (d - 1) 0 0 m_X9_pass [vR l1] M8 (fun r M9 => r = none ∧ Ext M8 M9 ∧ WA X d kc ns m_X7_readRound 78 [some (vR l0), none, some (vI x2), some (vI x4)] [] M9 Q)) ∧ (¬ x6 = ((nI 1) - x2) → Cl X (d - 1) 0 0 m_X9_refuse [vR l1, vI (mI M8 l1 2)] M8 (fun r M10 => ∃ x7 : Int32, r = some (vI x7) ∧ Ext M8 M10 ∧ (isB x7 ∧ Q (some (vI x7)) M10))))))))))))) ∧ (¬ (mI M2 l0 0) < (nI 6) → WA X d kc ns m_X7_readRound 22 [some (vR l0), some (vR l1), none, none] [] M2 Q))))))) :
    WA X d kc ns m_X7_readRound 0 [some (vR l0), some (vR l1), none, none] [] M Q := by
  refine x_aload_n (tk K_X7_readRound 0 rfl) rfl rfl ?_
  have hS_2 := h.1
  have h := h.2
  refine x_callV0 (As := []) (S := []) (tk K_X7_readRound 1 rfl) mk_X7_31 mo_X9_peek (TaS.o hS_2) rfl rfl (Nat.le_of_ble_eq_true rfl) hd h (fun r M1 hq => ?_)
  obtain ⟨x1, rfl, hE, h⟩ := hq
  have hT0 := PtS.ext hS hE
  have hT1 := TaS.ext hS_2 hE
  refine x_callS0 (As := [vI _]) (S := []) (tk K_X7_readRound 2 rfl) mk_X7_42 mo_X7_playerOf rfl rfl (Nat.le_of_ble_eq_true rfl) hd h (fun r M2 hq => ?_)
  obtain ⟨x2, rfl, hE, h⟩ := hq
  have hT2 := PtS.ext hT0 hE
  have hT3 := TaS.ext hT1 hE
  refine x_istore_n (L' := [some (vR _), some (vR _), some (vI _), none]) (tk K_X7_readRound 3 rfl) rfl rfl (Nat.le_of_ble_eq_true rfl) rfl ?_
  refine x_iload_n (tk K_X7_readRound 4 rfl) rfl rfl ?_
  refine x_iconst (tk K_X7_readRound 5 rfl) ic_m1 ?_
  refine x_icmp_eq (t := 22) (tk K_X7_readRound 6 rfl) rfl (fun hc => ?_) (fun hc => ?_)
  · have h := h.1 hc
    refine x_msk [true, true, false, false] ?_
    exact h
  · have h := h.2 hc
    refine x_aload_n (tk K_X7_readRound 7 rfl) rfl rfl ?_
    refine x_getI (tk K_X7_readRound 8 rfl) f_X7_18 rfl (PtS.o hT2) ?_
    refine x_bipush (tk K_X7_readRound 9 rfl) bp_6 ?_
    refine x_icmp_lt (t := 31) (tk K_X7_readRound 10 rfl) rfl (fun hc => ?_) (fun hc => ?_)
    · have h := h.1 hc
      refine x_aload_n (tk K_X7_readRound 16 rfl) rfl rfl ?_
      refine x_callV0 (As := []) (S := []) (tk K_X7_readRound 17 rfl) mk_X7_53 mo_X9_pass (TaS.o hT3) rfl rfl (Nat.le_of_ble_eq_true rfl) hd h (fun r M3 hq => ?_)
      obtain ⟨rfl, hE, h⟩ := hq
      have hT4 := PtS.ext hT2 hE
      have hT5 := TaS.ext hT3 hE
      refine x_aload_n (tk K_X7_readRound 18 rfl) rfl rfl ?_
      refine x_callV0 (As := []) (S := []) (tk K_X7_readRound 19 rfl) mk_X7_31 mo_X9_peek (TaS.o hT5) rfl rfl (Nat.le_of_ble_eq_true rfl) hd h (fun r M4 hq => ?_)
      obtain ⟨x3, rfl, hE, h⟩ := hq
      have hT6 := PtS.ext hT4 hE
      have hT7 := TaS.ext hT5 hE
      refine x_callS0 (As := [vI _]) (S := []) (tk K_X7_readRound 20 rfl) mk_X7_56 mo_X7_kindOf rfl rfl (Nat.le_of_ble_eq_true rfl) hd h (fun r M5 hq => ?_)
      obtain ⟨x4, rfl, hE, h⟩ := hq
      have hT8 := PtS.ext hT6 hE
      have hT9 := TaS.ext hT7 hE
      refine x_istore_n (L' := [some (vR _), some (vR _), some (vI _), some (vI _)]) (tk K_X7_readRound 21 rfl) rfl rfl (Nat.le_of_ble_eq_true rfl) rfl ?_
      refine x_iload_n (tk K_X7_readRound 22 rfl) rfl rfl ?_
      refine x_iconst (tk K_X7_readRound 23 rfl) ic_2 ?_
      refine x_icmp_eq (t := 78) (tk K_X7_readRound 24 rfl) rfl (fun hc => ?_) (fun hc => ?_)
      · have h := h.1 hc
        refine x_msk [true, false, true, true] ?_
        exact h
      · have h := h.2 hc
        refine x_aload_n (tk K_X7_readRound 25 rfl) rfl rfl ?_
        refine x_callV0 (As := []) (S := []) (tk K_X7_readRound 26 rfl) mk_X7_53 mo_X9_pass (TaS.o hT9) rfl rfl (Nat.le_of_ble_eq_true rfl) hd h (fun r M6 hq => ?_)
        obtain ⟨rfl, hE, h⟩ := hq
        have hT10 := PtS.ext hT8 hE
        have hT11 := TaS.ext hT9 hE
        refine x_aload_n (tk K_X7_readRound 27 rfl) rfl rfl ?_
        refine x_callV0 (As := []) (S := []) (tk K_X7_readRound 28 rfl) mk_X7_31 mo_X9_peek (TaS.o hT11) rfl rfl (Nat.le_of_ble_eq_true rfl) hd h (fun r M7 hq => ?_)
        obtain ⟨x5, rfl, hE, h⟩ := hq
        have hT12 := PtS.ext hT10 hE
        have hT13 := TaS.ext hT11 hE
        refine x_callS0 (As := [vI _]) (S := []) (tk K_X7_readRound 29 rfl) mk_X7_42 mo_X7_playerOf rfl rfl (Nat.le_of_ble_eq_true rfl) hd h (fun r M8 hq => ?_)
        obtain ⟨x6, rfl, hE, h⟩ := hq
        have hT14 := PtS.ext hT12 hE
        have hT15 := TaS.ext hT13 hE
        refine x_iconst (tk K_X7_readRound 30 rfl) ic_1 ?_
        refine x_iload_n (tk K_X7_readRound 31 rfl) rfl rfl ?_
        refine x_isub (tk K_X7_readRound 32 rfl) ?_
        refine x_icmp_eq (t := 74) (tk K_X7_readRound 33 rfl) rfl (fun hc => ?_) (fun hc => ?_)
        · have h := h.1 hc
          refine x_aload_n (tk K_X7_readRound 39 rfl) rfl rfl ?_
          refine x_callV0 (As := []) (S := []) (tk K_X7_readRound 40 rfl) mk_X7_53 mo_X9_pass (TaS.o hT15) rfl rfl (Nat.le_of_ble_eq_true rfl) hd h (fun r M9 hq => ?_)
          obtain ⟨rfl, hE, h⟩ := hq
          have hT16 := PtS.ext hT14 hE
          have hT17 := TaS.ext hT15 hE
          refine x_msk [true, false, true, true] ?_
          exact h
        · have h := h.2 hc
          refine x_aload_n (tk K_X7_readRound 34 rfl) rfl rfl ?_
          refine x_aload_n (tk K_X7_readRound 35 rfl) rfl rfl ?_
          refine x_getI (tk K_X7_readRound 36 rfl) f_X7_46 rfl (TaS.o hT15) ?_
          refine x_callV0 (As := [vI _]) (S := []) (tk K_X7_readRound 37 rfl) mk_X7_49 mo_X9_refuse (TaS.o hT15) rfl rfl (Nat.le_of_ble_eq_true rfl) hd h (fun r M10 hq => ?_)
          obtain ⟨x7, rfl, hE, h⟩ := hq
          have hT18 := PtS.ext hT14 hE
          have hT19 := TaS.ext hT15 hE
          exact x_ireturn (tk K_X7_readRound 38 rfl) rfl (fitZ h.1).1 h.2
    · have h := h.2 hc
      refine x_msk [true, true, false, false] ?_
      exact h

theorem b_X7_readRound_22 {X : Cx} {d kc ns : Nat} {M : Mem} {Q : Option AV → Mem → Prop} {l0 : Nat} {l1 : Nat} (hS : PtS M l0) (hd : 1 ≤ d)
    (h : TaS M l1 ∧ Cl X (d - 1) 0 0 m_X9_refuse [vR l1, vI (mI M l1 2)] M (fun r M1 => ∃ x1 : Int32, r = some (vI x1) ∧ Ext M M1 ∧ (isB x1 ∧ Q (some (vI x1)) M1))) :
    WA X d kc ns m_X7_readRound 22 [some (vR l0), some (vR l1), none, none] [] M Q := by
  refine x_aload_n (tk K_X7_readRound 11 rfl) rfl rfl ?_
  refine x_aload_n (tk K_X7_readRound 12 rfl) rfl rfl ?_
  have hS_2 := h.1
  have h := h.2
  refine x_getI (tk K_X7_readRound 13 rfl) f_X7_46 rfl (TaS.o hS_2) ?_
  refine x_callV0 (As := [vI _]) (S := []) (tk K_X7_readRound 14 rfl) mk_X7_49 mo_X9_refuse (TaS.o hS_2) rfl rfl (Nat.le_of_ble_eq_true rfl) hd h (fun r M1 hq => ?_)
  obtain ⟨x1, rfl, hE, h⟩ := hq
  have hT0 := PtS.ext hS hE
  have hT1 := TaS.ext hS_2 hE
  exact x_ireturn (tk K_X7_readRound 15 rfl) rfl (fitZ h.1).1 h.2

theorem b_X7_readRound_78 {X : Cx} {d kc ns : Nat} {M : Mem} {Q : Option AV → Mem → Prop} {l0 : Nat} {l2 : Int32} {l3 : Int32} (hS : PtS M l0)
    (h : vp_in (mI M l0 0) 6 ∧ ∀ M1 : Mem, M1 = sI M (l0 + 1) (ix (mI M l0 0)) l3 → vp_in (mI M1 l0 0) 6 ∧ ∀ M2 : Mem, M2 = sI M1 (l0 + 2) (ix (mI M1 l0 0)) l2 → ∀ M3 : Mem, M3 = sI M2 l0 0 ((mI M2 l0 0) + (nI 1)) → Q (some (vI (nI 1))) M3) :
    WA X d kc ns m_X7_readRound 78 [some (vR l0), none, some (vI l2), some (vI l3)] [] M Q := by
  refine x_aload_n (tk K_X7_readRound 41 rfl) rfl rfl ?_
  refine x_getRc (tk K_X7_readRound 42 rfl) f_X7_9 rfl (PtS.o hS) (PtS.r1 hS) ?_
  refine x_aload_n (tk K_X7_readRound 43 rfl) rfl rfl ?_
  refine x_getI (tk K_X7_readRound 44 rfl) f_X7_18 rfl (PtS.o hS) ?_
  refine x_iload_n (tk K_X7_readRound 45 rfl) rfl rfl ?_
  have hi := h.1
  have h := h.2
  have h := h _ rfl
  refine x_iast (tk K_X7_readRound 46 rfl) (PtS.k1 hS) hi ?_
  refine x_aload_n (tk K_X7_readRound 47 rfl) rfl rfl ?_
  refine x_getRc (tk K_X7_readRound 48 rfl) f_X7_15 rfl (PtS.o hS) (PtS.r2 hS) ?_
  refine x_aload_n (tk K_X7_readRound 49 rfl) rfl rfl ?_
  refine x_getI (tk K_X7_readRound 50 rfl) f_X7_18 rfl (PtS.o hS) ?_
  refine x_iload_n (tk K_X7_readRound 51 rfl) rfl rfl ?_
  have hi := h.1
  have h := h.2
  have h := h _ rfl
  refine x_iast (tk K_X7_readRound 52 rfl) (PtS.k2 hS) hi ?_
  refine x_aload_n (tk K_X7_readRound 53 rfl) rfl rfl ?_
  refine x_dup (tk K_X7_readRound 54 rfl) rfl ?_
  refine x_getI (tk K_X7_readRound 55 rfl) f_X7_18 rfl (PtS.o hS) ?_
  refine x_iconst (tk K_X7_readRound 56 rfl) ic_1 ?_
  refine x_iadd (tk K_X7_readRound 57 rfl) ?_
  have h := h _ rfl
  refine x_putI (tk K_X7_readRound 58 rfl) f_X7_18 rfl (Or.inl rfl) (PtS.o hS) ?_
  refine x_iconst (tk K_X7_readRound 59 rfl) ic_1 ?_
  exact x_ireturn (tk K_X7_readRound 60 rfl) rfl (fitZ (Or.inr rfl)).1 h

theorem e_X7_readRound {X : Cx} {d kc ns : Nat} {M : Mem} {Q : Option AV → Mem → Prop} {a0 : Nat} {a1 : Nat} (h : WA X d kc ns m_X7_readRound 0 [some (vR a0), some (vR a1), none, none] [] M Q) : Cl X d kc ns m_X7_readRound [vR a0, vR a1] M Q := Cl.intro (k := 2) (by decide) rfl rfl h

-- TwoPencils$ProtocolText.playerOf(C)I
theorem b_X7_playerOf_0 {X : Cx} {d kc ns : Nat} {M : Mem} {Q : Option AV → Mem → Prop} {l0 : Int32}
    (h : ((¬ l0 = (nI 97) → ((¬ l0 = (nI 98) → Q (some (vI (-1))) M) ∧ (l0 = (nI 98) → Q (some (vI (nI 1))) M))) ∧ (l0 = (nI 97) → Q (some (vI (nI 0))) M))) :
    WA X d kc ns m_X7_playerOf 0 [some (vI l0)] [] M Q := by
  refine x_iload_n (tk K_X7_playerOf 0 rfl) rfl rfl ?_
  refine x_bipush (tk K_X7_playerOf 1 rfl) bp_97 ?_
  refine x_icmp_ne (t := 8) (tk K_X7_playerOf 2 rfl) rfl (fun hc => ?_) (fun hc => ?_)
  · have h := h.1 hc
    refine x_iload_n (tk K_X7_playerOf 5 rfl) rfl rfl ?_
    refine x_bipush (tk K_X7_playerOf 6 rfl) bp_98 ?_
    refine x_icmp_ne (t := 18) (tk K_X7_playerOf 7 rfl) rfl (fun hc => ?_) (fun hc => ?_)
    · have h := h.1 hc
      refine x_iconst (tk K_X7_playerOf 10 rfl) ic_m1 ?_
      exact x_ireturn (tk K_X7_playerOf 11 rfl) rfl rfl h
    · have h := h.2 hc
      refine x_iconst (tk K_X7_playerOf 8 rfl) ic_1 ?_
      refine x_goto (t := 19) (tk K_X7_playerOf 9 rfl) rfl ?_
      exact x_ireturn (tk K_X7_playerOf 11 rfl) rfl rfl h
  · have h := h.2 hc
    refine x_iconst (tk K_X7_playerOf 3 rfl) ic_0 ?_
    exact x_ireturn (tk K_X7_playerOf 4 rfl) rfl rfl h

theorem e_X7_playerOf {X : Cx} {d kc ns : Nat} {M : Mem} {Q : Option AV → Mem → Prop} {a0 : Int32} (h : WA X d kc ns m_X7_playerOf 0 [some (vI a0)] [] M Q) : Cl X d kc ns m_X7_playerOf [vI a0] M Q := Cl.intro (k := 0) (by decide) rfl rfl h

-- TwoPencils$ProtocolText.kindOf(C)I
theorem b_X7_kindOf_0 {X : Cx} {d kc ns : Nat} {M : Mem} {Q : Option AV → Mem → Prop} {l0 : Int32}
    (h : ((l0.toInt = 43 → Q (some (vI (nI 3))) M) ∧ (l0.toInt = 47 → Q (some (vI (nI 5))) M) ∧ (l0.toInt = 62 → Q (some (vI (nI 0))) M) ∧ (¬ l0.toInt = 43 → ¬ l0.toInt = 47 → ¬ l0.toInt = 62 → Q (some (vI (nI 2))) M))) :
    WA X d kc ns m_X7_kindOf 0 [some (vI l0)] [] M Q := by
  refine x_iload_n (tk K_X7_kindOf 0 rfl) rfl rfl ?_
  refine x_lookup3 (tk K_X7_kindOf 1 rfl) rfl rfl rfl rfl rfl (fun hc => ?_) (fun hc => ?_) (fun hc => ?_) (fun hc0 hc1 hc2 => ?_)
  · have h := h.1 hc
    refine x_iconst (tk K_X7_kindOf 4 rfl) ic_3 ?_
    exact x_ireturn (tk K_X7_kindOf 5 rfl) rfl rfl h
  · have h := h.2.1 hc
    refine x_iconst (tk K_X7_kindOf 6 rfl) ic_5 ?_
    exact x_ireturn (tk K_X7_kindOf 7 rfl) rfl rfl h
  · have h := h.2.2.1 hc
    refine x_iconst (tk K_X7_kindOf 2 rfl) ic_0 ?_
    exact x_ireturn (tk K_X7_kindOf 3 rfl) rfl rfl h
  · have h := h.2.2.2 hc0 hc1 hc2
    refine x_iconst (tk K_X7_kindOf 8 rfl) ic_2 ?_
    exact x_ireturn (tk K_X7_kindOf 9 rfl) rfl rfl h

theorem e_X7_kindOf {X : Cx} {d kc ns : Nat} {M : Mem} {Q : Option AV → Mem → Prop} {a0 : Int32} (h : WA X d kc ns m_X7_kindOf 0 [some (vI a0)] [] M Q) : Cl X d kc ns m_X7_kindOf [vI a0] M Q := Cl.intro (k := 0) (by decide) rfl rfl h

-- TwoPencils$Roll.<init>()V
theorem b_X8_init_0 {X : Cx} {d kc ns : Nat} {M : Mem} {Q : Option AV → Mem → Prop} {l0 : Nat} (hS : isK M l0 8 4) (hd : 1 ≤ d)
    (h : vp_in (nI 0) 65536 ∧ 1 ≤ kc ∧ ix (nI 0) ≤ ns ∧ ∀ M1 : Mem, M1 = nw M 14 (ix (nI 0)) → ∀ M2 : Mem, M2 = sR M1 l0 0 (nx M) → vp_in (nI 0) 65536 ∧ 1 ≤ (kc - 1) ∧ ix (nI 0) ≤ (ns - ix (nI 0)) ∧ ∀ M3 : Mem, M3 = nw M2 14 (ix (nI 0)) → ∀ M4 : Mem, M4 = sR M3 l0 1 (nx M2) → ∀ M5 : Mem, M5 = sI M4 l0 2 (nI 0) → ∀ M6 : Mem, M6 = sI M5 l0 3 (nI 0) → Q none M6) :
    WA X d kc ns m_X8_init 0 [some (vR l0)] [] M Q := by
  refine x_aload_n (tk K_X8_init 0 rfl) rfl rfl ?_
  refine x_objInit (tk K_X8_init 1 rfl) oi_X8_3 oi_in oi_code hS (by decide) hd ?_
  refine x_aload_n (tk K_X8_init 2 rfl) rfl rfl ?_
  refine x_iconst (tk K_X8_init 3 rfl) ic_0 ?_
  have hx := h.1
  have hk := h.2.1
  have hn := h.2.2.1
  have h := h.2.2.2
  refine x_newa (k := 14) (tk K_X8_init 4 rfl) rfl ac_14 hx hk hn ?_
  refine WA_nm (fun M1 e_M1 => ?_)
  have h := h M1 e_M1
  have hT1 : isK M1 (nx M) 14 (ix (nI 0)) := by rw [e_M1]; exact isK_nw
  have hT2 : isK M1 l0 8 4 := by rw [e_M1]; exact (isK_nw_old hS)
  refine x_putR (tk K_X8_init 5 rfl) f_X8_9 rfl rfl (Or.inl rfl) hT2 ?_
  refine WA_nm (fun M2 e_M2 => ?_)
  have h := h M2 e_M2
  have hT3 : isK M2 l0 8 4 := by rw [e_M2]; exact hT2
  refine x_aload_n (tk K_X8_init 6 rfl) rfl rfl ?_
  refine x_iconst (tk K_X8_init 7 rfl) ic_0 ?_
  have hx := h.1
  have hk := h.2.1
  have hn := h.2.2.1
  have h := h.2.2.2
  refine x_newa (k := 14) (tk K_X8_init 8 rfl) rfl ac_14 hx hk hn ?_
  refine WA_nm (fun M3 e_M3 => ?_)
  have h := h M3 e_M3
  have hT5 : isK M3 (nx M2) 14 (ix (nI 0)) := by rw [e_M3]; exact isK_nw
  have hT6 : isK M3 l0 8 4 := by rw [e_M3]; exact (isK_nw_old hT3)
  refine x_putR (tk K_X8_init 9 rfl) f_X8_15 rfl rfl (Or.inl rfl) hT6 ?_
  refine WA_nm (fun M4 e_M4 => ?_)
  have h := h M4 e_M4
  have hT7 : isK M4 l0 8 4 := by rw [e_M4]; exact hT6
  refine x_aload_n (tk K_X8_init 10 rfl) rfl rfl ?_
  refine x_iconst (tk K_X8_init 11 rfl) ic_0 ?_
  refine x_putI (tk K_X8_init 12 rfl) f_X8_18 rfl (Or.inl rfl) hT7 ?_
  refine WA_nm (fun M5 e_M5 => ?_)
  have h := h M5 e_M5
  have hT8 : isK M5 l0 8 4 := by rw [e_M5]; exact hT7
  refine x_aload_n (tk K_X8_init 13 rfl) rfl rfl ?_
  refine x_iconst (tk K_X8_init 14 rfl) ic_0 ?_
  refine x_putZ (tk K_X8_init 15 rfl) f_X8_22 rfl (Or.inl rfl) hT8 (Or.inl rfl) ?_
  refine WA_nm (fun M6 e_M6 => ?_)
  have h := h M6 e_M6
  have hT9 : isK M6 l0 8 4 := by rw [e_M6]; exact hT8
  exact x_return (tk K_X8_init 16 rfl) rfl h

theorem e_X8_init {X : Cx} {d kc ns : Nat} {M : Mem} {Q : Option AV → Mem → Prop} {a0 : Nat} (h : WA X d kc ns m_X8_init 0 [some (vR a0)] [] M Q) : Cl X d kc ns m_X8_init [vR a0] M Q := Cl.intro (k := 0) (by decide) rfl rfl h

-- TwoPencils$Roll.makeRoom(II)V
theorem b_X8_makeRoom_0 {X : Cx} {d kc ns : Nat} {M : Mem} {Q : Option AV → Mem → Prop} {l0 : Nat} {l1 : Int32} {l2 : Int32} (hS : RoS M l0)
    (h : ∀ M1 : Mem, M1 = sI M l0 2 (nI 0) → ∃ n1 : Nat, isK M1 (mR M1 l0 0) 14 n1 ∧ (((nI n1) ≤ nI 0 → vp_in (nI 5) 65536 ∧ 1 ≤ kc ∧ ix (nI 5) ≤ ns ∧ ∀ M2 : Mem, M2 = nw M1 14 (ix (nI 5)) → vp_in (nI 0) (ix (nI 5)) ∧ ∀ M3 : Mem, M3 = sI M2 (nx M1) (ix (nI 0)) (nI 1) → WA X d (kc - 1) (ns - ix (nI 5)) m_X8_makeRoom 25 [some (vR l0), some (vI l1), some (vI l2), some (vR (nx M1)), some (vI (nI 1)), none] [] M3 Q) ∧ (¬ (nI n1) ≤ nI 0 → Q none M1))) :
    WA X d kc ns m_X8_makeRoom 0 [some (vR l0), some (vI l1), some (vI l2), none, none, none] [] M Q := by
  refine x_aload_n (tk K_X8_makeRoom 0 rfl) rfl rfl ?_
  refine x_iconst (tk K_X8_makeRoom 1 rfl) ic_0 ?_
  have h := h _ rfl
  refine x_putI (tk K_X8_makeRoom 2 rfl) f_X8_18 rfl (Or.inl rfl) (RoS.o hS) ?_
  refine x_aload_n (tk K_X8_makeRoom 3 rfl) rfl rfl ?_
  refine x_getR (tk K_X8_makeRoom 4 rfl) f_X8_9 rfl (RoS.o hS) ?_
  obtain ⟨n1, hA_n1, h⟩ := h
  refine x_alen (tk K_X8_makeRoom 5 rfl) hA_n1 rfl ?_
  refine x_if_le (t := 14) (tk K_X8_makeRoom 6 rfl) rfl (fun hc => ?_) (fun hc => ?_)
  · have h := h.1 hc
    refine x_iconst (tk K_X8_makeRoom 8 rfl) ic_5 ?_
    have hx := h.1
    have hk := h.2.1
    have hn := h.2.2.1
    have h := h.2.2.2
    have h := h _ rfl
    refine x_newa (k := 14) (tk K_X8_makeRoom 9 rfl) rfl ac_14 hx hk hn ?_
    refine x_astore_n (L' := [some (vR _), some (vI _), some (vI _), some (vR _), none, none]) (tk K_X8_makeRoom 10 rfl) rfl rfl (Nat.le_of_ble_eq_true rfl) rfl ?_
    refine x_aload_n (tk K_X8_makeRoom 11 rfl) rfl rfl ?_
    refine x_iconst (tk K_X8_makeRoom 12 rfl) ic_0 ?_
    refine x_iconst (tk K_X8_makeRoom 13 rfl) ic_1 ?_
    have hi := h.1
    have h := h.2
    have h := h _ rfl
    refine x_iast (tk K_X8_makeRoom 14 rfl) isK_nw hi ?_
    refine x_iconst (tk K_X8_makeRoom 15 rfl) ic_1 ?_
    refine x_istore (L' := [some (vR _), some (vI _), some (vI _), some (vR _), some (vI _), none]) (tk K_X8_makeRoom 16 rfl) rfl (Nat.le_of_ble_eq_true rfl) rfl ?_
    exact h
  · have h := h.2 hc
    exact x_return (tk K_X8_makeRoom 7 rfl) rfl h

theorem b_X8_makeRoom_25 {X : Cx} {d kc ns : Nat} {M : Mem} {Q : Option AV → Mem → Prop} {l0 : Nat} {l1 : Int32} {l2 : Int32} {l3 : Nat} {l4 : Int32} (hS : RoS M l0)
    (h : ((l1 < l4 → ((l2 < nI 0 → Q none M) ∧ (¬ l2 < nI 0 → (((nI 4) < l2 → Q none M) ∧ (¬ (nI 4) < l2 → ∃ n1 : Nat, isK M l3 14 n1 ∧ vp_in l2 n1 ∧ (((mI M l3 (ix l2)) ≤ nI 0 → Q none M) ∧ (¬ (mI M l3 (ix l2)) ≤ nI 0 → vp_in l2 n1 ∧ vp_in (mI M l3 (ix l2)) 65536 ∧ 1 ≤ kc ∧ ix (mI M l3 (ix l2)) ≤ ns ∧ ∀ M1 : Mem, M1 = nw M 14 (ix (mI M l3 (ix l2))) → ∀ M2 : Mem, M2 = sR M1 l0 0 (nx M) → vp_in l2 n1 ∧ vp_in (mI M2 l3 (ix l2)) 65536 ∧ 1 ≤ (kc - 1) ∧ ix (mI M2 l3 (ix l2)) ≤ (ns - ix (mI M l3 (ix l2))) ∧ ∀ M3 : Mem, M3 = nw M2 14 (ix (mI M2 l3 (ix l2))) → ∀ M4 : Mem, M4 = sR M3 l0 1 (nx M2) → Q none M4))))))) ∧ (¬ l1 < l4 → WA X d kc ns m_X8_makeRoom 34 [some (vR l0), some (vI l1), some (vI l2), some (vR l3), some (vI l4), some (vI (nI 4))] [] M Q))) :
    WA X d kc ns m_X8_makeRoom 25 [some (vR l0), some (vI l1), some (vI l2), some (vR l3), some (vI l4), none] [] M Q := by
  refine x_iload (tk K_X8_makeRoom 17 rfl) rfl ?_
  refine x_iload_n (tk K_X8_makeRoom 18 rfl) rfl rfl ?_
  refine x_icmp_gt (t := 73) (tk K_X8_makeRoom 19 rfl) rfl (fun hc => ?_) (fun hc => ?_)
  · have h := h.1 hc
    refine x_iload_n (tk K_X8_makeRoom 46 rfl) rfl rfl ?_
    refine x_if_lt (t := 106) (tk K_X8_makeRoom 47 rfl) rfl (fun hc => ?_) (fun hc => ?_)
    · have h := h.1 hc
      exact x_return (tk K_X8_makeRoom 67 rfl) rfl h
    · have h := h.2 hc
      refine x_iload_n (tk K_X8_makeRoom 48 rfl) rfl rfl ?_
      refine x_iconst (tk K_X8_makeRoom 49 rfl) ic_4 ?_
      refine x_icmp_gt (t := 106) (tk K_X8_makeRoom 50 rfl) rfl (fun hc => ?_) (fun hc => ?_)
      · have h := h.1 hc
        exact x_return (tk K_X8_makeRoom 67 rfl) rfl h
      · have h := h.2 hc
        refine x_aload_n (tk K_X8_makeRoom 51 rfl) rfl rfl ?_
        refine x_iload_n (tk K_X8_makeRoom 52 rfl) rfl rfl ?_
        obtain ⟨n1, hA_n1, h⟩ := h
        have hi := h.1
        have h := h.2
        refine x_iald (tk K_X8_makeRoom 53 rfl) hA_n1 hi ?_
        refine x_if_le (t := 106) (tk K_X8_makeRoom 54 rfl) rfl (fun hc => ?_) (fun hc => ?_)
        · have h := h.1 hc
          exact x_return (tk K_X8_makeRoom 67 rfl) rfl h
        · have h := h.2 hc
          refine x_aload_n (tk K_X8_makeRoom 55 rfl) rfl rfl ?_
          refine x_aload_n (tk K_X8_makeRoom 56 rfl) rfl rfl ?_
          refine x_iload_n (tk K_X8_makeRoom 57 rfl) rfl rfl ?_
          have hi := h.1
          have h := h.2
          refine x_iald (tk K_X8_makeRoom 58 rfl) hA_n1 hi ?_
          have hx := h.1
          have hk := h.2.1
          have hn := h.2.2.1
          have h := h.2.2.2
          have h := h _ rfl
          refine x_newa (k := 14) (tk K_X8_makeRoom 59 rfl) rfl ac_14 hx hk hn ?_
          have h := h _ rfl
          refine x_putR (tk K_X8_makeRoom 60 rfl) f_X8_9 rfl rfl (Or.inl rfl) (RoS.o (RoS.ext hS ExtN)) ?_
          refine x_aload_n (tk K_X8_makeRoom 61 rfl) rfl rfl ?_
          refine x_aload_n (tk K_X8_makeRoom 62 rfl) rfl rfl ?_
          refine x_iload_n (tk K_X8_makeRoom 63 rfl) rfl rfl ?_
          have hi := h.1
          have h := h.2
          refine x_iald (tk K_X8_makeRoom 64 rfl) (isK_nw_old hA_n1) hi ?_
          have hx := h.1
          have hk := h.2.1
          have hn := h.2.2.1
          have h := h.2.2.2
          have h := h _ rfl
          refine x_newa (k := 14) (tk K_X8_makeRoom 65 rfl) rfl ac_14 hx hk hn ?_
          have h := h _ rfl
          refine x_putR (tk K_X8_makeRoom 66 rfl) f_X8_15 rfl rfl (Or.inl rfl) (RoS.o (RoS.ext (RoS.ext (RoS.ext hS ExtN) (ExtR (i := 0) (RoS.o (RoS.ext hS ExtN)) rfl)) ExtN)) ?_
          exact x_return (tk K_X8_makeRoom 67 rfl) rfl h
  · have h := h.2 hc
    refine x_iconst (tk K_X8_makeRoom 20 rfl) ic_4 ?_
    refine x_istore (L' := [some (vR _), some (vI _), some (vI _), some (vR _), some (vI _), some (vI _)]) (tk K_X8_makeRoom 21 rfl) rfl (Nat.le_of_ble_eq_true rfl) rfl ?_
    exact h

theorem b_X8_makeRoom_34 {X : Cx} {d kc ns : Nat} {M : Mem} {Q : Option AV → Mem → Prop} {l0 : Nat} {l1 : Int32} {l2 : Int32} {l3 : Nat} {l4 : Int32} {l5 : Int32} (hS : RoS M l0)
    (h : ((l5 ≤ nI 0 → ∃ n1 : Nat, isK M l3 14 n1 ∧ vp_in (nI 0) n1 ∧ ∀ M1 : Mem, M1 = sI M l3 (ix (nI 0)) (nI 0) → WA X d kc ns m_X8_makeRoom 25 [some (vR l0), some (vI l1), some (vI l2), some (vR l3), some (vI (l4 + (nI 1))), none] [] M1 Q) ∧ (¬ l5 ≤ nI 0 → ∃ n2 : Nat, isK M l3 14 n2 ∧ vp_in l5 n2 ∧ vp_in (l5 - (nI 1)) n2 ∧ vp_in l5 n2 ∧ ∀ M2 : Mem, M2 = sI M l3 (ix l5) (((mI M l3 (ix l5)) * l5) + (mI M l3 (ix (l5 - (nI 1))))) → WA X d kc ns m_X8_makeRoom 34 [some (vR l0), some (vI l1), some (vI l2), some (vR l3), some (vI l4), some (vI (l5 + (-1)))] [] M2 Q))) :
    WA X d kc ns m_X8_makeRoom 34 [some (vR l0), some (vI l1), some (vI l2), some (vR l3), some (vI l4), some (vI l5)] [] M Q := by
  refine x_iload (tk K_X8_makeRoom 22 rfl) rfl ?_
  refine x_if_le (t := 63) (tk K_X8_makeRoom 23 rfl) rfl (fun hc => ?_) (fun hc => ?_)
  · have h := h.1 hc
    refine x_aload_n (tk K_X8_makeRoom 40 rfl) rfl rfl ?_
    refine x_iconst (tk K_X8_makeRoom 41 rfl) ic_0 ?_
    refine x_iconst (tk K_X8_makeRoom 42 rfl) ic_0 ?_
    obtain ⟨n1, hA_n1, h⟩ := h
    have hi := h.1
    have h := h.2
    have h := h _ rfl
    refine x_iast (tk K_X8_makeRoom 43 rfl) hA_n1 hi ?_
    refine x_iincW (L' := [some (vR _), some (vI _), some (vI _), some (vR _), some (vI _), some (vI _)]) (tk K_X8_makeRoom 44 rfl) rfl ic_1 rfl (Nat.le_of_ble_eq_true rfl) rfl ?_
    refine x_goto (t := 25) (tk K_X8_makeRoom 45 rfl) rfl ?_
    refine x_msk [true, true, true, true, true, false] ?_
    exact h
  · have h := h.2 hc
    refine x_aload_n (tk K_X8_makeRoom 24 rfl) rfl rfl ?_
    refine x_iload (tk K_X8_makeRoom 25 rfl) rfl ?_
    refine x_aload_n (tk K_X8_makeRoom 26 rfl) rfl rfl ?_
    refine x_iload (tk K_X8_makeRoom 27 rfl) rfl ?_
    obtain ⟨n2, hA_n2, h⟩ := h
    have hi := h.1
    have h := h.2
    refine x_iald (tk K_X8_makeRoom 28 rfl) hA_n2 hi ?_
    refine x_iload (tk K_X8_makeRoom 29 rfl) rfl ?_
    refine x_imul (tk K_X8_makeRoom 30 rfl) ?_
    refine x_aload_n (tk K_X8_makeRoom 31 rfl) rfl rfl ?_
    refine x_iload (tk K_X8_makeRoom 32 rfl) rfl ?_
    refine x_iconst (tk K_X8_makeRoom 33 rfl) ic_1 ?_
    refine x_isub (tk K_X8_makeRoom 34 rfl) ?_
    have hi := h.1
    have h := h.2
    refine x_iald (tk K_X8_makeRoom 35 rfl) hA_n2 hi ?_
    refine x_iadd (tk K_X8_makeRoom 36 rfl) ?_
    have hi := h.1
    have h := h.2
    have h := h _ rfl
    refine x_iast (tk K_X8_makeRoom 37 rfl) hA_n2 hi ?_
    refine x_iincW (L' := [some (vR _), some (vI _), some (vI _), some (vR _), some (vI _), some (vI _)]) (tk K_X8_makeRoom 38 rfl) rfl ic_m1 rfl (Nat.le_of_ble_eq_true rfl) rfl ?_
    refine x_goto (t := 34) (tk K_X8_makeRoom 39 rfl) rfl ?_
    exact h

theorem e_X8_makeRoom {X : Cx} {d kc ns : Nat} {M : Mem} {Q : Option AV → Mem → Prop} {a0 : Nat} {a1 : Int32} {a2 : Int32} (h : WA X d kc ns m_X8_makeRoom 0 [some (vR a0), some (vI a1), some (vI a2), none, none, none] [] M Q) : Cl X d kc ns m_X8_makeRoom [vR a0, vI a1, vI a2] M Q := Cl.intro (k := 3) (by decide) rfl rfl h

-- TwoPencils$Roll.enter(IIII)V
theorem b_X8_enter_0 {X : Cx} {d kc ns : Nat} {M : Mem} {Q : Option AV → Mem → Prop} {l0 : Nat} {l1 : Int32} {l2 : Int32} {l3 : Int32} {l4 : Int32} (hS : RoS M l0)
    (h : ∃ n1 : Nat, isK M (mR M l0 0) 14 n1 ∧ (((nI n1) ≤ (mI M l0 2) → Q none M) ∧ (¬ (nI n1) ≤ (mI M l0 2) → ∃ n2 : Nat, isK M (mR M l0 1) 14 n2 ∧ (((nI n2) ≤ (mI M l0 2) → Q none M) ∧ (¬ (nI n2) ≤ (mI M l0 2) → vp_in (mI M l0 2) n1 ∧ ∀ M1 : Mem, M1 = sI M (mR M l0 0) (ix (mI M l0 2)) l1 → ∃ n3 : Nat, isK M1 (mR M1 l0 1) 14 n3 ∧ vp_in (mI M1 l0 2) n3 ∧ ∀ M2 : Mem, M2 = sI M1 (mR M1 l0 1) (ix (mI M1 l0 2)) ((l2 ||| (shl l3 (nI 3))) ||| (shl l4 (nI 6))) → ∀ M3 : Mem, M3 = sI M2 l0 2 ((mI M2 l0 2) + (nI 1)) → Q none M3))))) :
    WA X d kc ns m_X8_enter 0 [some (vR l0), some (vI l1), some (vI l2), some (vI l3), some (vI l4)] [] M Q := by
  refine x_aload_n (tk K_X8_enter 0 rfl) rfl rfl ?_
  refine x_getI (tk K_X8_enter 1 rfl) f_X8_18 rfl (RoS.o hS) ?_
  refine x_aload_n (tk K_X8_enter 2 rfl) rfl rfl ?_
  refine x_getR (tk K_X8_enter 3 rfl) f_X8_9 rfl (RoS.o hS) ?_
  obtain ⟨n1, hA_n1, h⟩ := h
  refine x_alen (tk K_X8_enter 4 rfl) hA_n1 rfl ?_
  refine x_icmp_ge (t := 64) (tk K_X8_enter 5 rfl) rfl (fun hc => ?_) (fun hc => ?_)
  · have h := h.1 hc
    exact x_return (tk K_X8_enter 38 rfl) rfl h
  · have h := h.2 hc
    refine x_aload_n (tk K_X8_enter 6 rfl) rfl rfl ?_
    refine x_getI (tk K_X8_enter 7 rfl) f_X8_18 rfl (RoS.o hS) ?_
    refine x_aload_n (tk K_X8_enter 8 rfl) rfl rfl ?_
    refine x_getR (tk K_X8_enter 9 rfl) f_X8_15 rfl (RoS.o hS) ?_
    obtain ⟨n2, hA_n2, h⟩ := h
    refine x_alen (tk K_X8_enter 10 rfl) hA_n2 rfl ?_
    refine x_icmp_ge (t := 64) (tk K_X8_enter 11 rfl) rfl (fun hc => ?_) (fun hc => ?_)
    · have h := h.1 hc
      exact x_return (tk K_X8_enter 38 rfl) rfl h
    · have h := h.2 hc
      refine x_aload_n (tk K_X8_enter 12 rfl) rfl rfl ?_
      refine x_getR (tk K_X8_enter 13 rfl) f_X8_9 rfl (RoS.o hS) ?_
      refine x_aload_n (tk K_X8_enter 14 rfl) rfl rfl ?_
      refine x_getI (tk K_X8_enter 15 rfl) f_X8_18 rfl (RoS.o hS) ?_
      refine x_iload_n (tk K_X8_enter 16 rfl) rfl rfl ?_
      have hi := h.1
      have h := h.2
      have h := h _ rfl
      refine x_iast (tk K_X8_enter 17 rfl) hA_n1 hi ?_
      refine x_aload_n (tk K_X8_enter 18 rfl) rfl rfl ?_
      refine x_getR (tk K_X8_enter 19 rfl) f_X8_15 rfl (RoS.o hS) ?_
      refine x_aload_n (tk K_X8_enter 20 rfl) rfl rfl ?_
      refine x_getI (tk K_X8_enter 21 rfl) f_X8_18 rfl (RoS.o hS) ?_
      refine x_iload_n (tk K_X8_enter 22 rfl) rfl rfl ?_
      refine x_iload_n (tk K_X8_enter 23 rfl) rfl rfl ?_
      refine x_iconst (tk K_X8_enter 24 rfl) ic_3 ?_
      refine x_ishl (tk K_X8_enter 25 rfl) ?_
      refine x_ior (tk K_X8_enter 26 rfl) ?_
      refine x_iload (tk K_X8_enter 27 rfl) rfl ?_
      refine x_bipush (tk K_X8_enter 28 rfl) bp_6 ?_
      refine x_ishl (tk K_X8_enter 29 rfl) ?_
      refine x_ior (tk K_X8_enter 30 rfl) ?_
      obtain ⟨n3, hA_n3, h⟩ := h
      have hi := h.1
      have h := h.2
      have h := h _ rfl
      refine x_iast (tk K_X8_enter 31 rfl) hA_n3 hi ?_
      refine x_aload_n (tk K_X8_enter 32 rfl) rfl rfl ?_
      refine x_dup (tk K_X8_enter 33 rfl) rfl ?_
      refine x_getI (tk K_X8_enter 34 rfl) f_X8_18 rfl (RoS.o hS) ?_
      refine x_iconst (tk K_X8_enter 35 rfl) ic_1 ?_
      refine x_iadd (tk K_X8_enter 36 rfl) ?_
      have h := h _ rfl
      refine x_putI (tk K_X8_enter 37 rfl) f_X8_18 rfl (Or.inl rfl) (RoS.o hS) ?_
      exact x_return (tk K_X8_enter 38 rfl) rfl h

theorem e_X8_enter {X : Cx} {d kc ns : Nat} {M : Mem} {Q : Option AV → Mem → Prop} {a0 : Nat} {a1 : Int32} {a2 : Int32} {a3 : Int32} {a4 : Int32} (h : WA X d kc ns m_X8_enter 0 [some (vR a0), some (vI a1), some (vI a2), some (vI a3), some (vI a4)] [] M Q) : Cl X d kc ns m_X8_enter [vR a0, vI a1, vI a2, vI a3, vI a4] M Q := Cl.intro (k := 0) (by decide) rfl rfl h

-- TwoPencils$Roll.winsOf(II)I
theorem b_X8_winsOf_0 {X : Cx} {d kc ns : Nat} {M : Mem} {Q : Option AV → Mem → Prop} {l0 : Nat} {l1 : Int32} {l2 : Int32} (hS : RoS M l0)
    (h : ∃ n1 : Nat, isK M (mR M l0 1) 14 n1 ∧ vp_in l1 n1 ∧ Q (some (vI ((shr (mI M (mR M l0 1) (ix l1)) ((nI 3) * l2)) &&& (nI 7)))) M) :
    WA X d kc ns m_X8_winsOf 0 [some (vR l0), some (vI l1), some (vI l2)] [] M Q := by
  refine x_aload_n (tk K_X8_winsOf 0 rfl) rfl rfl ?_
  refine x_getR (tk K_X8_winsOf 1 rfl) f_X8_15 rfl (RoS.o hS) ?_
  refine x_iload_n (tk K_X8_winsOf 2 rfl) rfl rfl ?_
  obtain ⟨n1, hA_n1, h⟩ := h
  have hi := h.1
  have h := h.2
  refine x_iald (tk K_X8_winsOf 3 rfl) hA_n1 hi ?_
  refine x_iconst (tk K_X8_winsOf 4 rfl) ic_3 ?_
  refine x_iload_n (tk K_X8_winsOf 5 rfl) rfl rfl ?_
  refine x_imul (tk K_X8_winsOf 6 rfl) ?_
  refine x_ishr (tk K_X8_winsOf 7 rfl) ?_
  refine x_bipush (tk K_X8_winsOf 8 rfl) bp_7 ?_
  refine x_iand (tk K_X8_winsOf 9 rfl) ?_
  exact x_ireturn (tk K_X8_winsOf 10 rfl) rfl rfl h

theorem e_X8_winsOf {X : Cx} {d kc ns : Nat} {M : Mem} {Q : Option AV → Mem → Prop} {a0 : Nat} {a1 : Int32} {a2 : Int32} (h : WA X d kc ns m_X8_winsOf 0 [some (vR a0), some (vI a1), some (vI a2)] [] M Q) : Cl X d kc ns m_X8_winsOf [vR a0, vI a1, vI a2] M Q := Cl.intro (k := 0) (by decide) rfl rfl h

-- TwoPencils$Roll.most(I)I
theorem b_X8_most_0 {X : Cx} {d kc ns : Nat} {M : Mem} {Q : Option AV → Mem → Prop} {l0 : Nat} {l1 : Int32} (hS : RoS M l0)
    (h : WA X d kc ns m_X8_most 4 [some (vR l0), some (vI l1), some (vI (nI 0)), some (vI (nI 0))] [] M Q) :
    WA X d kc ns m_X8_most 0 [some (vR l0), some (vI l1), none, none] [] M Q := by
  refine x_iconst (tk K_X8_most 0 rfl) ic_0 ?_
  refine x_istore_n (L' := [some (vR _), some (vI _), some (vI _), none]) (tk K_X8_most 1 rfl) rfl rfl (Nat.le_of_ble_eq_true rfl) rfl ?_
  refine x_iconst (tk K_X8_most 2 rfl) ic_0 ?_
  refine x_istore_n (L' := [some (vR _), some (vI _), some (vI _), some (vI _)]) (tk K_X8_most 3 rfl) rfl rfl (Nat.le_of_ble_eq_true rfl) rfl ?_
  exact h

theorem b_X8_most_4 {X : Cx} {d kc ns : Nat} {M : Mem} {Q : Option AV → Mem → Prop} {l0 : Nat} {l1 : Int32} {l2 : Int32} {l3 : Int32} (hS : RoS M l0) (hd : 1 ≤ d)
    (h : (((mI M l0 2) ≤ l3 → Q (some (vI l2)) M) ∧ (¬ (mI M l0 2) ≤ l3 → Cl X (d - 1) 0 0 m_X8_winsOf [vR l0, vI l3, vI l1] M (fun r M1 => ∃ x1 : Int32, r = some (vI x1) ∧ Ext M M1 ∧ ∀ x2 : Int32, x2 = (maxI l2 x1) → WA X d kc ns m_X8_most 4 [some (vR l0), some (vI l1), some (vI x2), some (vI (l3 + (nI 1)))] [] M1 Q)))) :
    WA X d kc ns m_X8_most 4 [some (vR l0), some (vI l1), some (vI l2), some (vI l3)] [] M Q := by
  refine x_iload_n (tk K_X8_most 4 rfl) rfl rfl ?_
  refine x_aload_n (tk K_X8_most 5 rfl) rfl rfl ?_
  refine x_getI (tk K_X8_most 6 rfl) f_X8_18 rfl (RoS.o hS) ?_
  refine x_icmp_ge (t := 29) (tk K_X8_most 7 rfl) rfl (fun hc => ?_) (fun hc => ?_)
  · have h := h.1 hc
    refine x_iload_n (tk K_X8_most 17 rfl) rfl rfl ?_
    exact x_ireturn (tk K_X8_most 18 rfl) rfl rfl h
  · have h := h.2 hc
    refine x_iload_n (tk K_X8_most 8 rfl) rfl rfl ?_
    refine x_aload_n (tk K_X8_most 9 rfl) rfl rfl ?_
    refine x_iload_n (tk K_X8_most 10 rfl) rfl rfl ?_
    refine x_iload_n (tk K_X8_most 11 rfl) rfl rfl ?_
    refine x_callV0 (As := [vI _, vI _]) (S := [vI _]) (tk K_X8_most 12 rfl) mk_X8_26 mo_X8_winsOf (RoS.o hS) rfl rfl (Nat.le_of_ble_eq_true rfl) hd h (fun r M1 hq => ?_)
    obtain ⟨x1, rfl, hE, h⟩ := hq
    have hT0 := RoS.ext hS hE
    refine x_mmax (tk K_X8_most 13 rfl) mx_X8_30 mx_max_st mx_max_co hd (Nat.le_of_ble_eq_true rfl) ?_
    have h := h _ rfl
    refine x_istore_n (L' := [some (vR _), some (vI _), some (vI _), some (vI _)]) (tk K_X8_most 14 rfl) rfl rfl (Nat.le_of_ble_eq_true rfl) rfl ?_
    refine x_iincW (L' := [some (vR _), some (vI _), some (vI _), some (vI _)]) (tk K_X8_most 15 rfl) rfl ic_1 rfl (Nat.le_of_ble_eq_true rfl) rfl ?_
    refine x_goto (t := 4) (tk K_X8_most 16 rfl) rfl ?_
    exact h

theorem e_X8_most {X : Cx} {d kc ns : Nat} {M : Mem} {Q : Option AV → Mem → Prop} {a0 : Nat} {a1 : Int32} (h : WA X d kc ns m_X8_most 0 [some (vR a0), some (vI a1), none, none] [] M Q) : Cl X d kc ns m_X8_most [vR a0, vI a1] M Q := Cl.intro (k := 2) (by decide) rfl rfl h

-- TwoPencils$Roll.fewest(I)I
theorem b_X8_fewest_0 {X : Cx} {d kc ns : Nat} {M : Mem} {Q : Option AV → Mem → Prop} {l0 : Nat} {l1 : Int32} (hS : RoS M l0)
    (h : WA X d kc ns m_X8_fewest 4 [some (vR l0), some (vI l1), some (vI (nI 4)), some (vI (nI 0))] [] M Q) :
    WA X d kc ns m_X8_fewest 0 [some (vR l0), some (vI l1), none, none] [] M Q := by
  refine x_iconst (tk K_X8_fewest 0 rfl) ic_4 ?_
  refine x_istore_n (L' := [some (vR _), some (vI _), some (vI _), none]) (tk K_X8_fewest 1 rfl) rfl rfl (Nat.le_of_ble_eq_true rfl) rfl ?_
  refine x_iconst (tk K_X8_fewest 2 rfl) ic_0 ?_
  refine x_istore_n (L' := [some (vR _), some (vI _), some (vI _), some (vI _)]) (tk K_X8_fewest 3 rfl) rfl rfl (Nat.le_of_ble_eq_true rfl) rfl ?_
  exact h

theorem b_X8_fewest_4 {X : Cx} {d kc ns : Nat} {M : Mem} {Q : Option AV → Mem → Prop} {l0 : Nat} {l1 : Int32} {l2 : Int32} {l3 : Int32} (hS : RoS M l0) (hd : 1 ≤ d)
    (h : (((mI M l0 2) ≤ l3 → Q (some (vI l2)) M) ∧ (¬ (mI M l0 2) ≤ l3 → Cl X (d - 1) 0 0 m_X8_winsOf [vR l0, vI l3, vI l1] M (fun r M1 => ∃ x1 : Int32, r = some (vI x1) ∧ Ext M M1 ∧ ∀ x2 : Int32, x2 = (minI l2 x1) → WA X d kc ns m_X8_fewest 4 [some (vR l0), some (vI l1), some (vI x2), some (vI (l3 + (nI 1)))] [] M1 Q)))) :
    WA X d kc ns m_X8_fewest 4 [some (vR l0), some (vI l1), some (vI l2), some (vI l3)] [] M Q := by
  refine x_iload_n (tk K_X8_fewest 4 rfl) rfl rfl ?_
  refine x_aload_n (tk K_X8_fewest 5 rfl) rfl rfl ?_
  refine x_getI (tk K_X8_fewest 6 rfl) f_X8_18 rfl (RoS.o hS) ?_
  refine x_icmp_ge (t := 29) (tk K_X8_fewest 7 rfl) rfl (fun hc => ?_) (fun hc => ?_)
  · have h := h.1 hc
    refine x_iload_n (tk K_X8_fewest 17 rfl) rfl rfl ?_
    exact x_ireturn (tk K_X8_fewest 18 rfl) rfl rfl h
  · have h := h.2 hc
    refine x_iload_n (tk K_X8_fewest 8 rfl) rfl rfl ?_
    refine x_aload_n (tk K_X8_fewest 9 rfl) rfl rfl ?_
    refine x_iload_n (tk K_X8_fewest 10 rfl) rfl rfl ?_
    refine x_iload_n (tk K_X8_fewest 11 rfl) rfl rfl ?_
    refine x_callV0 (As := [vI _, vI _]) (S := [vI _]) (tk K_X8_fewest 12 rfl) mk_X8_26 mo_X8_winsOf (RoS.o hS) rfl rfl (Nat.le_of_ble_eq_true rfl) hd h (fun r M1 hq => ?_)
    obtain ⟨x1, rfl, hE, h⟩ := hq
    have hT0 := RoS.ext hS hE
    refine x_mmin (tk K_X8_fewest 13 rfl) mx_X8_35 mx_min_st mx_min_co hd (Nat.le_of_ble_eq_true rfl) ?_
    have h := h _ rfl
    refine x_istore_n (L' := [some (vR _), some (vI _), some (vI _), some (vI _)]) (tk K_X8_fewest 14 rfl) rfl rfl (Nat.le_of_ble_eq_true rfl) rfl ?_
    refine x_iincW (L' := [some (vR _), some (vI _), some (vI _), some (vI _)]) (tk K_X8_fewest 15 rfl) rfl ic_1 rfl (Nat.le_of_ble_eq_true rfl) rfl ?_
    refine x_goto (t := 4) (tk K_X8_fewest 16 rfl) rfl ?_
    exact h

theorem e_X8_fewest {X : Cx} {d kc ns : Nat} {M : Mem} {Q : Option AV → Mem → Prop} {a0 : Nat} {a1 : Int32} (h : WA X d kc ns m_X8_fewest 0 [some (vR a0), some (vI a1), none, none] [] M Q) : Cl X d kc ns m_X8_fewest [vR a0, vI a1] M Q := Cl.intro (k := 2) (by decide) rfl rfl h

-- TwoPencils$Roll.earliest(II)I
theorem b_X8_earliest_0 {X : Cx} {d kc ns : Nat} {M : Mem} {Q : Option AV → Mem → Prop} {l0 : Nat} {l1 : Int32} {l2 : Int32} (hS : RoS M l0)
    (h : WA X d kc ns m_X8_earliest 2 [some (vR l0), some (vI l1), some (vI l2), some (vI (nI 0))] [] M Q) :
    WA X d kc ns m_X8_earliest 0 [some (vR l0), some (vI l1), some (vI l2), none] [] M Q := by
  refine x_iconst (tk K_X8_earliest 0 rfl) ic_0 ?_
  refine x_istore_n (L' := [some (vR _), some (vI _), some (vI _), some (vI _)]) (tk K_X8_earliest 1 rfl) rfl rfl (Nat.le_of_ble_eq_true rfl) rfl ?_
  exact h

theorem b_X8_earliest_2 {X : Cx} {d kc ns : Nat} {M : Mem} {Q : Option AV → Mem → Prop} {l0 : Nat} {l1 : Int32} {l2 : Int32} {l3 : Int32} (hS : RoS M l0) (hd : 1 ≤ d)
    (h : (((mI M l0 2) ≤ l3 → Q (some (vI (-1))) M) ∧ (¬ (mI M l0 2) ≤ l3 → Cl X (d - 1) 0 0 m_X8_winsOf [vR l0, vI l3, vI l1] M (fun r M1 => ∃ x1 : Int32, r = some (vI x1) ∧ Ext M M1 ∧ ((¬ x1 = l2 → WA X d kc ns m_X8_earliest 2 [some (vR l0), some (vI l1), some (vI l2), some (vI (l3 + (nI 1)))] [] M1 Q) ∧ (x1 = l2 → ∃ n1 : Nat, isK M1 (mR M1 l0 0) 14 n1 ∧ vp_in l3 n1 ∧ Q (some (vI (mI M1 (mR M1 l0 0) (ix l3)))) M1)))))) :
    WA X d kc ns m_X8_earliest 2 [some (vR l0), some (vI l1), some (vI l2), some (vI l3)] [] M Q := by
  refine x_iload_n (tk K_X8_earliest 2 rfl) rfl rfl ?_
  refine x_aload_n (tk K_X8_earliest 3 rfl) rfl rfl ?_
  refine x_getI (tk K_X8_earliest 4 rfl) f_X8_18 rfl (RoS.o hS) ?_
  refine x_icmp_ge (t := 33) (tk K_X8_earliest 5 rfl) rfl (fun hc => ?_) (fun hc => ?_)
  · have h := h.1 hc
    refine x_iconst (tk K_X8_earliest 19 rfl) ic_m1 ?_
    exact x_ireturn (tk K_X8_earliest 20 rfl) rfl rfl h
  · have h := h.2 hc
    refine x_aload_n (tk K_X8_earliest 6 rfl) rfl rfl ?_
    refine x_iload_n (tk K_X8_earliest 7 rfl) rfl rfl ?_
    refine x_iload_n (tk K_X8_earliest 8 rfl) rfl rfl ?_
    refine x_callV0 (As := [vI _, vI _]) (S := []) (tk K_X8_earliest 9 rfl) mk_X8_26 mo_X8_winsOf (RoS.o hS) rfl rfl (Nat.le_of_ble_eq_true rfl) hd h (fun r M1 hq => ?_)
    obtain ⟨x1, rfl, hE, h⟩ := hq
    have hT0 := RoS.ext hS hE
    refine x_iload_n (tk K_X8_earliest 10 rfl) rfl rfl ?_
    refine x_icmp_ne (t := 27) (tk K_X8_earliest 11 rfl) rfl (fun hc => ?_) (fun hc => ?_)
    · have h := h.1 hc
      refine x_iincW (L' := [some (vR _), some (vI _), some (vI _), some (vI _)]) (tk K_X8_earliest 17 rfl) rfl ic_1 rfl (Nat.le_of_ble_eq_true rfl) rfl ?_
      refine x_goto (t := 2) (tk K_X8_earliest 18 rfl) rfl ?_
      exact h
    · have h := h.2 hc
      refine x_aload_n (tk K_X8_earliest 12 rfl) rfl rfl ?_
      refine x_getR (tk K_X8_earliest 13 rfl) f_X8_9 rfl (RoS.o hT0) ?_
      refine x_iload_n (tk K_X8_earliest 14 rfl) rfl rfl ?_
      obtain ⟨n1, hA_n1, h⟩ := h
      have hi := h.1
      have h := h.2
      refine x_iald (tk K_X8_earliest 15 rfl) hA_n1 hi ?_
      exact x_ireturn (tk K_X8_earliest 16 rfl) rfl rfl h

theorem e_X8_earliest {X : Cx} {d kc ns : Nat} {M : Mem} {Q : Option AV → Mem → Prop} {a0 : Nat} {a1 : Int32} {a2 : Int32} (h : WA X d kc ns m_X8_earliest 0 [some (vR a0), some (vI a1), some (vI a2), none] [] M Q) : Cl X d kc ns m_X8_earliest [vR a0, vI a1, vI a2] M Q := Cl.intro (k := 1) (by decide) rfl rfl h

-- TwoPencils$Roll.howMany(III)I
theorem b_X8_howMany_0 {X : Cx} {d kc ns : Nat} {M : Mem} {Q : Option AV → Mem → Prop} {l0 : Nat} {l1 : Int32} {l2 : Int32} {l3 : Int32} (hS : RoS M l0)
    (h : WA X d kc ns m_X8_howMany 6 [some (vR l0), some (vI l1), some (vI l2), some (vI l3), some (vI (nI 0)), some (vI (nI 0)), none] [] M Q) :
    WA X d kc ns m_X8_howMany 0 [some (vR l0), some (vI l1), some (vI l2), some (vI l3), none, none, none] [] M Q := by
  refine x_iconst (tk K_X8_howMany 0 rfl) ic_0 ?_
  refine x_istore (L' := [some (vR _), some (vI _), some (vI _), some (vI _), some (vI _), none, none]) (tk K_X8_howMany 1 rfl) rfl (Nat.le_of_ble_eq_true rfl) rfl ?_
  refine x_iconst (tk K_X8_howMany 2 rfl) ic_0 ?_
  refine x_istore (L' := [some (vR _), some (vI _), some (vI _), some (vI _), some (vI _), some (vI _), none]) (tk K_X8_howMany 3 rfl) rfl (Nat.le_of_ble_eq_true rfl) rfl ?_
  exact h

theorem b_X8_howMany_6 {X : Cx} {d kc ns : Nat} {M : Mem} {Q : Option AV → Mem → Prop} {l0 : Nat} {l1 : Int32} {l2 : Int32} {l3 : Int32} {l4 : Int32} {l5 : Int32} (hS : RoS M l0) (hd : 1 ≤ d)
    (h : (((mI M l0 2) ≤ l5 → Q (some (vI l4)) M) ∧ (¬ (mI M l0 2) ≤ l5 → Cl X (d - 1) 0 0 m_X8_winsOf [vR l0, vI l5, vI l1] M (fun r M1 => ∃ x1 : Int32, r = some (vI x1) ∧ Ext M M1 ∧ ((x1 < l2 → WA X d kc ns m_X8_howMany 6 [some (vR l0), some (vI l1), some (vI l2), some (vI l3), some (vI l4), some (vI (l5 + (nI 1))), none] [] M1 Q) ∧ (¬ x1 < l2 → ((l3 < x1 → WA X d kc ns m_X8_howMany 6 [some (vR l0), some (vI l1), some (vI l2), some (vI l3), some (vI l4), some (vI (l5 + (nI 1))), none] [] M1 Q) ∧ (¬ l3 < x1 → WA X d kc ns m_X8_howMany 6 [some (vR l0), some (vI l1), some (vI l2), some (vI l3), some (vI (l4 + (nI 1))), some (vI (l5 + (nI 1))), none] [] M1 Q)))))))) :
    WA X d kc ns m_X8_howMany 6 [some (vR l0), some (vI l1), some (vI l2), some (vI l3), some (vI l4), some (vI l5), none] [] M Q := by
  refine x_iload (tk K_X8_howMany 4 rfl) rfl ?_
  refine x_aload_n (tk K_X8_howMany 5 rfl) rfl rfl ?_
  refine x_getI (tk K_X8_howMany 6 rfl) f_X8_18 rfl (RoS.o hS) ?_
  refine x_icmp_ge (t := 45) (tk K_X8_howMany 7 rfl) rfl (fun hc => ?_) (fun hc => ?_)
  · have h := h.1 hc
    refine x_iload (tk K_X8_howMany 22 rfl) rfl ?_
    exact x_ireturn (tk K_X8_howMany 23 rfl) rfl rfl h
  · have h := h.2 hc
    refine x_aload_n (tk K_X8_howMany 8 rfl) rfl rfl ?_
    refine x_iload (tk K_X8_howMany 9 rfl) rfl ?_
    refine x_iload_n (tk K_X8_howMany 10 rfl) rfl rfl ?_
    refine x_callV0 (As := [vI _, vI _]) (S := []) (tk K_X8_howMany 11 rfl) mk_X8_26 mo_X8_winsOf (RoS.o hS) rfl rfl (Nat.le_of_ble_eq_true rfl) hd h (fun r M1 hq => ?_)
    obtain ⟨x1, rfl, hE, h⟩ := hq
    have hT0 := RoS.ext hS hE
    refine x_istore (L' := [some (vR _), some (vI _), some (vI _), some (vI _), some (vI _), some (vI _), some (vI _)]) (tk K_X8_howMany 12 rfl) rfl (Nat.le_of_ble_eq_true rfl) rfl ?_
    refine x_iload (tk K_X8_howMany 13 rfl) rfl ?_
    refine x_iload_n (tk K_X8_howMany 14 rfl) rfl rfl ?_
    refine x_icmp_lt (t := 39) (tk K_X8_howMany 15 rfl) rfl (fun hc => ?_) (fun hc => ?_)
    · have h := h.1 hc
      refine x_iincW (L' := [some (vR _), some (vI _), some (vI _), some (vI _), some (vI _), some (vI _), some (vI _)]) (tk K_X8_howMany 20 rfl) rfl ic_1 rfl (Nat.le_of_ble_eq_true rfl) rfl ?_
      refine x_goto (t := 6) (tk K_X8_howMany 21 rfl) rfl ?_
      refine x_msk [true, true, true, true, true, true, false] ?_
      exact h
    · have h := h.2 hc
      refine x_iload (tk K_X8_howMany 16 rfl) rfl ?_
      refine x_iload_n (tk K_X8_howMany 17 rfl) rfl rfl ?_
      refine x_icmp_gt (t := 39) (tk K_X8_howMany 18 rfl) rfl (fun hc => ?_) (fun hc => ?_)
      · have h := h.1 hc
        refine x_iincW (L' := [some (vR _), some (vI _), some (vI _), some (vI _), some (vI _), some (vI _), some (vI _)]) (tk K_X8_howMany 20 rfl) rfl ic_1 rfl (Nat.le_of_ble_eq_true rfl) rfl ?_
        refine x_goto (t := 6) (tk K_X8_howMany 21 rfl) rfl ?_
        refine x_msk [true, true, true, true, true, true, false] ?_
        exact h
      · have h := h.2 hc
        refine x_iincW (L' := [some (vR _), some (vI _), some (vI _), some (vI _), some (vI _), some (vI _), some (vI _)]) (tk K_X8_howMany 19 rfl) rfl ic_1 rfl (Nat.le_of_ble_eq_true rfl) rfl ?_
        refine x_iincW (L' := [some (vR _), some (vI _), some (vI _), some (vI _), some (vI _), some (vI _), some (vI _)]) (tk K_X8_howMany 20 rfl) rfl ic_1 rfl (Nat.le_of_ble_eq_true rfl) rfl ?_
        refine x_goto (t := 6) (tk K_X8_howMany 21 rfl) rfl ?_
        refine x_msk [true, true, true, true, true, true, false] ?_
        exact h

theorem e_X8_howMany {X : Cx} {d kc ns : Nat} {M : Mem} {Q : Option AV → Mem → Prop} {a0 : Nat} {a1 : Int32} {a2 : Int32} {a3 : Int32} (h : WA X d kc ns m_X8_howMany 0 [some (vR a0), some (vI a1), some (vI a2), some (vI a3), none, none, none] [] M Q) : Cl X d kc ns m_X8_howMany [vR a0, vI a1, vI a2, vI a3] M Q := Cl.intro (k := 3) (by decide) rfl rfl h

-- TwoPencils$Tape.<init>()V
theorem b_X9_init_0 {X : Cx} {d kc ns : Nat} {M : Mem} {Q : Option AV → Mem → Prop} {l0 : Nat} (hS : isK M l0 9 4) (hd : 1 ≤ d)
    (h : vp_in (nI 300) 65536 ∧ 1 ≤ kc ∧ ix (nI 300) ≤ ns ∧ ∀ M1 : Mem, M1 = nw M 13 (ix (nI 300)) → ∀ M2 : Mem, M2 = sR M1 l0 0 (nx M) → ∀ M3 : Mem, M3 = sI M2 l0 1 (nI 0) → ∀ M4 : Mem, M4 = sI M3 l0 2 (nI 0) → ∀ M5 : Mem, M5 = sI M4 l0 3 (-1) → Q none M5) :
    WA X d kc ns m_X9_init 0 [some (vR l0)] [] M Q := by
  refine x_aload_n (tk K_X9_init 0 rfl) rfl rfl ?_
  refine x_objInit (tk K_X9_init 1 rfl) oi_X9_3 oi_in oi_code hS (by decide) hd ?_
  refine x_aload_n (tk K_X9_init 2 rfl) rfl rfl ?_
  refine x_sipush (tk K_X9_init 3 rfl) sp_300 ?_
  have hx := h.1
  have hk := h.2.1
  have hn := h.2.2.1
  have h := h.2.2.2
  refine x_newa (k := 13) (tk K_X9_init 4 rfl) rfl ac_13 hx hk hn ?_
  refine WA_nm (fun M1 e_M1 => ?_)
  have h := h M1 e_M1
  have hT1 : isK M1 (nx M) 13 (ix (nI 300)) := by rw [e_M1]; exact isK_nw
  have hT2 : isK M1 l0 9 4 := by rw [e_M1]; exact (isK_nw_old hS)
  refine x_putR (tk K_X9_init 5 rfl) f_X9_9 rfl rfl (Or.inr ⟨rfl, rfl, rfl, l_X9_9⟩) hT2 ?_
  refine WA_nm (fun M2 e_M2 => ?_)
  have h := h M2 e_M2
  have hT3 : isK M2 l0 9 4 := by rw [e_M2]; exact hT2
  refine x_aload_n (tk K_X9_init 6 rfl) rfl rfl ?_
  refine x_iconst (tk K_X9_init 7 rfl) ic_0 ?_
  refine x_putI (tk K_X9_init 8 rfl) f_X9_15 rfl (Or.inl rfl) hT3 ?_
  refine WA_nm (fun M3 e_M3 => ?_)
  have h := h M3 e_M3
  have hT4 : isK M3 l0 9 4 := by rw [e_M3]; exact hT3
  refine x_aload_n (tk K_X9_init 9 rfl) rfl rfl ?_
  refine x_iconst (tk K_X9_init 10 rfl) ic_0 ?_
  refine x_putI (tk K_X9_init 11 rfl) f_X9_19 rfl (Or.inl rfl) hT4 ?_
  refine WA_nm (fun M4 e_M4 => ?_)
  have h := h M4 e_M4
  have hT5 : isK M4 l0 9 4 := by rw [e_M4]; exact hT4
  refine x_aload_n (tk K_X9_init 12 rfl) rfl rfl ?_
  refine x_iconst (tk K_X9_init 13 rfl) ic_m1 ?_
  refine x_putI (tk K_X9_init 14 rfl) f_X9_22 rfl (Or.inl rfl) hT5 ?_
  refine WA_nm (fun M5 e_M5 => ?_)
  have h := h M5 e_M5
  have hT6 : isK M5 l0 9 4 := by rw [e_M5]; exact hT5
  exact x_return (tk K_X9_init 15 rfl) rfl h

theorem e_X9_init {X : Cx} {d kc ns : Nat} {M : Mem} {Q : Option AV → Mem → Prop} {a0 : Nat} (h : WA X d kc ns m_X9_init 0 [some (vR a0)] [] M Q) : Cl X d kc ns m_X9_init [vR a0] M Q := Cl.intro (k := 0) (by decide) rfl rfl h

-- TwoPencils$Tape.signsIn(I)I
theorem b_X9_signsIn_0 {X : Cx} {d kc ns : Nat} {M : Mem} {Q : Option AV → Mem → Prop} {l0 : Int32}
    (h : WA X d kc ns m_X9_signsIn 5 [some (vI l0), some (vI (nI 0)), some (vI (nI 24))] [] M Q) :
    WA X d kc ns m_X9_signsIn 0 [some (vI l0), none, none] [] M Q := by
  refine x_iconst (tk K_X9_signsIn 0 rfl) ic_0 ?_
  refine x_istore_n (L' := [some (vI _), some (vI _), none]) (tk K_X9_signsIn 1 rfl) rfl rfl (Nat.le_of_ble_eq_true rfl) rfl ?_
  refine x_bipush (tk K_X9_signsIn 2 rfl) bp_24 ?_
  refine x_istore_n (L' := [some (vI _), some (vI _), some (vI _)]) (tk K_X9_signsIn 3 rfl) rfl rfl (Nat.le_of_ble_eq_true rfl) rfl ?_
  exact h

theorem b_X9_signsIn_5 {X : Cx} {d kc ns : Nat} {M : Mem} {Q : Option AV → Mem → Prop} {l0 : Int32} {l1 : Int32} {l2 : Int32}
    (h : ((l2 < nI 0 → Q (some (vI l1)) M) ∧ (¬ l2 < nI 0 → ((((ushr l0 l2) &&& (nI 255)) = nI 0 → WA X d kc ns m_X9_signsIn 5 [some (vI l0), some (vI l1), some (vI (l2 + (-8)))] [] M Q) ∧ (¬ ((ushr l0 l2) &&& (nI 255)) = nI 0 → WA X d kc ns m_X9_signsIn 5 [some (vI l0), some (vI (l1 + (nI 1))), some (vI (l2 + (-8)))] [] M Q))))) :
    WA X d kc ns m_X9_signsIn 5 [some (vI l0), some (vI l1), some (vI l2)] [] M Q := by
  refine x_iload_n (tk K_X9_signsIn 4 rfl) rfl rfl ?_
  refine x_if_lt (t := 28) (tk K_X9_signsIn 5 rfl) rfl (fun hc => ?_) (fun hc => ?_)
  · have h := h.1 hc
    refine x_iload_n (tk K_X9_signsIn 15 rfl) rfl rfl ?_
    exact x_ireturn (tk K_X9_signsIn 16 rfl) rfl rfl h
  · have h := h.2 hc
    refine x_iload_n (tk K_X9_signsIn 6 rfl) rfl rfl ?_
    refine x_iload_n (tk K_X9_signsIn 7 rfl) rfl rfl ?_
    refine x_iushr (tk K_X9_signsIn 8 rfl) ?_
    refine x_sipush (tk K_X9_signsIn 9 rfl) sp_255 ?_
    refine x_iand (tk K_X9_signsIn 10 rfl) ?_
    refine x_if_eq (t := 22) (tk K_X9_signsIn 11 rfl) rfl (fun hc => ?_) (fun hc => ?_)
    · have h := h.1 hc
      refine x_iincW (L' := [some (vI _), some (vI _), some (vI _)]) (tk K_X9_signsIn 13 rfl) rfl ic_m8 rfl (Nat.le_of_ble_eq_true rfl) rfl ?_
      refine x_goto (t := 5) (tk K_X9_signsIn 14 rfl) rfl ?_
      exact h
    · have h := h.2 hc
      refine x_iincW (L' := [some (vI _), some (vI _), some (vI _)]) (tk K_X9_signsIn 12 rfl) rfl ic_1 rfl (Nat.le_of_ble_eq_true rfl) rfl ?_
      refine x_iincW (L' := [some (vI _), some (vI _), some (vI _)]) (tk K_X9_signsIn 13 rfl) rfl ic_m8 rfl (Nat.le_of_ble_eq_true rfl) rfl ?_
      refine x_goto (t := 5) (tk K_X9_signsIn 14 rfl) rfl ?_
      exact h

theorem e_X9_signsIn {X : Cx} {d kc ns : Nat} {M : Mem} {Q : Option AV → Mem → Prop} {a0 : Int32} (h : WA X d kc ns m_X9_signsIn 0 [some (vI a0), none, none] [] M Q) : Cl X d kc ns m_X9_signsIn [vI a0] M Q := Cl.intro (k := 2) (by decide) rfl rfl h

-- TwoPencils$Tape.add(I)V
theorem b_X9_add_0 {X : Cx} {d kc ns : Nat} {M : Mem} {Q : Option AV → Mem → Prop} {l0 : Nat} {l1 : Int32} (hS : TaS M l0)
    (h : WA X d kc ns m_X9_add 3 [some (vR l0), some (vI l1), some (vI (nI 24)), none] [] M Q) :
    WA X d kc ns m_X9_add 0 [some (vR l0), some (vI l1), none, none] [] M Q := by
  refine x_bipush (tk K_X9_add 0 rfl) bp_24 ?_
  refine x_istore_n (L' := [some (vR _), some (vI _), some (vI _), none]) (tk K_X9_add 1 rfl) rfl rfl (Nat.le_of_ble_eq_true rfl) rfl ?_
  exact h

theorem b_X9_add_3 {X : Cx} {d kc ns : Nat} {M : Mem} {Q : Option AV → Mem → Prop} {l0 : Nat} {l1 : Int32} {l2 : Int32} (hS : TaS M l0)
    (h : ((l2 < nI 0 → Q none M) ∧ (¬ l2 < nI 0 → ∀ x1 : Int32, x1 = ((ushr l1 l2) &&& (nI 255)) → ((x1 = nI 0 → WA X d kc ns m_X9_add 3 [some (vR l0), some (vI l1), some (vI (l2 + (-8))), none] [] M Q) ∧ (¬ x1 = nI 0 → (((nI 300) ≤ (mI M l0 1) → WA X d kc ns m_X9_add 3 [some (vR l0), some (vI l1), some (vI (l2 + (-8))), none] [] M Q) ∧ (¬ (nI 300) ≤ (mI M l0 1) → vp_in (mI M l0 1) 300 ∧ ∀ M1 : Mem, M1 = sI M (l0 + 1) (ix (mI M l0 1)) (vp_nar .char (i2c x1)) → ∀ M2 : Mem, M2 = sI M1 l0 1 ((mI M1 l0 1) + (nI 1)) → WA X d kc ns m_X9_add 3 [some (vR l0), some (vI l1), some (vI (l2 + (-8))), none] [] M2 Q))))))) :
    WA X d kc ns m_X9_add 3 [some (vR l0), some (vI l1), some (vI l2), none] [] M Q := by
  refine x_iload_n (tk K_X9_add 2 rfl) rfl rfl ?_
  refine x_if_lt (t := 56) (tk K_X9_add 3 rfl) rfl (fun hc => ?_) (fun hc => ?_)
  · have h := h.1 hc
    exact x_return (tk K_X9_add 31 rfl) rfl h
  · have h := h.2 hc
    refine x_iload_n (tk K_X9_add 4 rfl) rfl rfl ?_
    refine x_iload_n (tk K_X9_add 5 rfl) rfl rfl ?_
    refine x_iushr (tk K_X9_add 6 rfl) ?_
    refine x_sipush (tk K_X9_add 7 rfl) sp_255 ?_
    refine x_iand (tk K_X9_add 8 rfl) ?_
    have h := h _ rfl
    refine x_istore_n (L' := [some (vR _), some (vI _), some (vI _), some (vI _)]) (tk K_X9_add 9 rfl) rfl rfl (Nat.le_of_ble_eq_true rfl) rfl ?_
    refine x_iload_n (tk K_X9_add 10 rfl) rfl rfl ?_
    refine x_if_eq (t := 50) (tk K_X9_add 11 rfl) rfl (fun hc => ?_) (fun hc => ?_)
    · have h := h.1 hc
      refine x_iincW (L' := [some (vR _), some (vI _), some (vI _), some (vI _)]) (tk K_X9_add 29 rfl) rfl ic_m8 rfl (Nat.le_of_ble_eq_true rfl) rfl ?_
      refine x_goto (t := 3) (tk K_X9_add 30 rfl) rfl ?_
      refine x_msk [true, true, true, false] ?_
      exact h
    · have h := h.2 hc
      refine x_aload_n (tk K_X9_add 12 rfl) rfl rfl ?_
      refine x_getI (tk K_X9_add 13 rfl) f_X9_15 rfl (TaS.o hS) ?_
      refine x_sipush (tk K_X9_add 14 rfl) sp_300 ?_
      refine x_icmp_ge (t := 50) (tk K_X9_add 15 rfl) rfl (fun hc => ?_) (fun hc => ?_)
      · have h := h.1 hc
        refine x_iincW (L' := [some (vR _), some (vI _), some (vI _), some (vI _)]) (tk K_X9_add 29 rfl) rfl ic_m8 rfl (Nat.le_of_ble_eq_true rfl) rfl ?_
        refine x_goto (t := 3) (tk K_X9_add 30 rfl) rfl ?_
        refine x_msk [true, true, true, false] ?_
        exact h
      · have h := h.2 hc
        refine x_aload_n (tk K_X9_add 16 rfl) rfl rfl ?_
        refine x_getRc (tk K_X9_add 17 rfl) f_X9_9 rfl (TaS.o hS) (TaS.r0 hS) ?_
        refine x_aload_n (tk K_X9_add 18 rfl) rfl rfl ?_
        refine x_getI (tk K_X9_add 19 rfl) f_X9_15 rfl (TaS.o hS) ?_
        refine x_iload_n (tk K_X9_add 20 rfl) rfl rfl ?_
        refine x_i2c (tk K_X9_add 21 rfl) ?_
        have hi := h.1
        have h := h.2
        have h := h _ rfl
        refine x_cast (tk K_X9_add 22 rfl) (TaS.k0 hS) hi ?_
        refine x_aload_n (tk K_X9_add 23 rfl) rfl rfl ?_
        refine x_dup (tk K_X9_add 24 rfl) rfl ?_
        refine x_getI (tk K_X9_add 25 rfl) f_X9_15 rfl (TaS.o hS) ?_
        refine x_iconst (tk K_X9_add 26 rfl) ic_1 ?_
        refine x_iadd (tk K_X9_add 27 rfl) ?_
        have h := h _ rfl
        refine x_putI (tk K_X9_add 28 rfl) f_X9_15 rfl (Or.inl rfl) (TaS.o hS) ?_
        refine x_iincW (L' := [some (vR _), some (vI _), some (vI _), some (vI _)]) (tk K_X9_add 29 rfl) rfl ic_m8 rfl (Nat.le_of_ble_eq_true rfl) rfl ?_
        refine x_goto (t := 3) (tk K_X9_add 30 rfl) rfl ?_
        refine x_msk [true, true, true, false] ?_
        exact h

theorem e_X9_add {X : Cx} {d kc ns : Nat} {M : Mem} {Q : Option AV → Mem → Prop} {a0 : Nat} {a1 : Int32} (h : WA X d kc ns m_X9_add 0 [some (vR a0), some (vI a1), none, none] [] M Q) : Cl X d kc ns m_X9_add [vR a0, vI a1] M Q := Cl.intro (k := 2) (by decide) rfl rfl h

-- TwoPencils$Tape.rewind()V
theorem b_X9_rewind_0 {X : Cx} {d kc ns : Nat} {M : Mem} {Q : Option AV → Mem → Prop} {l0 : Nat} (hS : TaS M l0)
    (h : ∀ M1 : Mem, M1 = sI M l0 2 (nI 0) → ∀ M2 : Mem, M2 = sI M1 l0 3 (-1) → Q none M2) :
    WA X d kc ns m_X9_rewind 0 [some (vR l0)] [] M Q := by
  refine x_aload_n (tk K_X9_rewind 0 rfl) rfl rfl ?_
  refine x_iconst (tk K_X9_rewind 1 rfl) ic_0 ?_
  have h := h _ rfl
  refine x_putI (tk K_X9_rewind 2 rfl) f_X9_19 rfl (Or.inl rfl) (TaS.o hS) ?_
  refine x_aload_n (tk K_X9_rewind 3 rfl) rfl rfl ?_
  refine x_iconst (tk K_X9_rewind 4 rfl) ic_m1 ?_
  have h := h _ rfl
  refine x_putI (tk K_X9_rewind 5 rfl) f_X9_22 rfl (Or.inl rfl) (TaS.o hS) ?_
  exact x_return (tk K_X9_rewind 6 rfl) rfl h

theorem e_X9_rewind {X : Cx} {d kc ns : Nat} {M : Mem} {Q : Option AV → Mem → Prop} {a0 : Nat} (h : WA X d kc ns m_X9_rewind 0 [some (vR a0)] [] M Q) : Cl X d kc ns m_X9_rewind [vR a0] M Q := Cl.intro (k := 0) (by decide) rfl rfl h

-- TwoPencils$Tape.peek()C
theorem b_X9_peek_0 {X : Cx} {d kc ns : Nat} {M : Mem} {Q : Option AV → Mem → Prop} {l0 : Nat} (hS : TaS M l0)
    (h : WA X d kc ns m_X9_peek 2 [some (vR l0), some (vI (nI 0))] [] M Q) :
    WA X d kc ns m_X9_peek 0 [some (vR l0), none] [] M Q := by
  refine x_iconst (tk K_X9_peek 0 rfl) ic_0 ?_
  refine x_istore_n (L' := [some (vR _), some (vI _)]) (tk K_X9_peek 1 rfl) rfl rfl (Nat.le_of_ble_eq_true rfl) rfl ?_
  exact h

theorem b_X9_peek_2 {X : Cx} {d kc ns : Nat} {M : Mem} {Q : Option AV → Mem → Prop} {l0 : Nat} {l1 : Int32} (hS : TaS M l0)
    (h : (((nI 300) ≤ l1 → WA X d kc ns m_X9_peek 50 [some (vR l0), none] [] M Q) ∧ (¬ (nI 300) ≤ l1 → (((mI M l0 1) ≤ (mI M l0 2) → WA X d kc ns m_X9_peek 50 [some (vR l0), none] [] M Q) ∧ (¬ (mI M l0 1) ≤ (mI M l0 2) → vp_in (mI M l0 2) 300 ∧ ((¬ (mI M (l0 + 1) (ix (mI M l0 2))) = (nI 32) → WA X d kc ns m_X9_peek 50 [some (vR l0), none] [] M Q) ∧ ((mI M (l0 + 1) (ix (mI M l0 2))) = (nI 32) → ∀ M1 : Mem, M1 = sI M l0 2 ((mI M l0 2) + (nI 1)) → WA X d kc ns m_X9_peek 2 [some (vR l0), some (vI (l1 + (nI 1)))] [] M1 Q))))))) :
    WA X d kc ns m_X9_peek 2 [some (vR l0), some (vI l1)] [] M Q := by
  refine x_iload_n (tk K_X9_peek 2 rfl) rfl rfl ?_
  refine x_sipush (tk K_X9_peek 3 rfl) sp_300 ?_
  refine x_icmp_ge (t := 50) (tk K_X9_peek 4 rfl) rfl (fun hc => ?_) (fun hc => ?_)
  · have h := h.1 hc
    refine x_msk [true, false] ?_
    exact h
  · have h := h.2 hc
    refine x_aload_n (tk K_X9_peek 5 rfl) rfl rfl ?_
    refine x_getI (tk K_X9_peek 6 rfl) f_X9_19 rfl (TaS.o hS) ?_
    refine x_aload_n (tk K_X9_peek 7 rfl) rfl rfl ?_
    refine x_getI (tk K_X9_peek 8 rfl) f_X9_15 rfl (TaS.o hS) ?_
    refine x_icmp_ge (t := 50) (tk K_X9_peek 9 rfl) rfl (fun hc => ?_) (fun hc => ?_)
    · have h := h.1 hc
      refine x_msk [true, false] ?_
      exact h
    · have h := h.2 hc
      refine x_aload_n (tk K_X9_peek 10 rfl) rfl rfl ?_
      refine x_getRc (tk K_X9_peek 11 rfl) f_X9_9 rfl (TaS.o hS) (TaS.r0 hS) ?_
      refine x_aload_n (tk K_X9_peek 12 rfl) rfl rfl ?_
      refine x_getI (tk K_X9_peek 13 rfl) f_X9_19 rfl (TaS.o hS) ?_
      have hi := h.1
      have h := h.2
      refine x_cald (tk K_X9_peek 14 rfl) (TaS.k0 hS) hi ?_
      refine x_bipush (tk K_X9_peek 15 rfl) bp_32 ?_
      refine x_icmp_ne (t := 50) (tk K_X9_peek 16 rfl) rfl (fun hc => ?_) (fun hc => ?_)
      · have h := h.1 hc
        refine x_msk [true, false] ?_
        exact h
      · have h := h.2 hc
        refine x_aload_n (tk K_X9_peek 17 rfl) rfl rfl ?_
        refine x_dup (tk K_X9_peek 18 rfl) rfl ?_
        refine x_getI (tk K_X9_peek 19 rfl) f_X9_19 rfl (TaS.o hS) ?_
        refine x_iconst (tk K_X9_peek 20 rfl) ic_1 ?_
        refine x_iadd (tk K_X9_peek 21 rfl) ?_
        have h := h _ rfl
        refine x_putI (tk K_X9_peek 22 rfl) f_X9_19 rfl (Or.inl rfl) (TaS.o hS) ?_
        refine x_iincW (L' := [some (vR _), some (vI _)]) (tk K_X9_peek 23 rfl) rfl ic_1 rfl (Nat.le_of_ble_eq_true rfl) rfl ?_
        refine x_goto (t := 2) (tk K_X9_peek 24 rfl) rfl ?_
        exact h

theorem b_X9_peek_50 {X : Cx} {d kc ns : Nat} {M : Mem} {Q : Option AV → Mem → Prop} {l0 : Nat} (hS : TaS M l0)
    (h : (((mI M l0 1) ≤ (mI M l0 2) → (narrow .char (.int (nI 0)) = .int (nI 0) ∧ Q (some (vI (nI 0))) M)) ∧ (¬ (mI M l0 1) ≤ (mI M l0 2) → vp_in (mI M l0 2) 300 ∧ (narrow .char (.int (mI M (l0 + 1) (ix (mI M l0 2)))) = .int (mI M (l0 + 1) (ix (mI M l0 2))) ∧ Q (some (vI (mI M (l0 + 1) (ix (mI M l0 2))))) M)))) :
    WA X d kc ns m_X9_peek 50 [some (vR l0), none] [] M Q := by
  refine x_aload_n (tk K_X9_peek 25 rfl) rfl rfl ?_
  refine x_getI (tk K_X9_peek 26 rfl) f_X9_19 rfl (TaS.o hS) ?_
  refine x_aload_n (tk K_X9_peek 27 rfl) rfl rfl ?_
  refine x_getI (tk K_X9_peek 28 rfl) f_X9_15 rfl (TaS.o hS) ?_
  refine x_icmp_ge (t := 73) (tk K_X9_peek 29 rfl) rfl (fun hc => ?_) (fun hc => ?_)
  · have h := h.1 hc
    refine x_iconst (tk K_X9_peek 36 rfl) ic_0 ?_
    exact x_ireturn (tk K_X9_peek 37 rfl) rfl h.1 h.2
  · have h := h.2 hc
    refine x_aload_n (tk K_X9_peek 30 rfl) rfl rfl ?_
    refine x_getRc (tk K_X9_peek 31 rfl) f_X9_9 rfl (TaS.o hS) (TaS.r0 hS) ?_
    refine x_aload_n (tk K_X9_peek 32 rfl) rfl rfl ?_
    refine x_getI (tk K_X9_peek 33 rfl) f_X9_19 rfl (TaS.o hS) ?_
    have hi := h.1
    have h := h.2
    refine x_cald (tk K_X9_peek 34 rfl) (TaS.k0 hS) hi ?_
    refine x_goto (t := 74) (tk K_X9_peek 35 rfl) rfl ?_
    exact x_ireturn (tk K_X9_peek 37 rfl) rfl h.1 h.2

theorem e_X9_peek {X : Cx} {d kc ns : Nat} {M : Mem} {Q : Option AV → Mem → Prop} {a0 : Nat} (h : WA X d kc ns m_X9_peek 0 [some (vR a0), none] [] M Q) : Cl X d kc ns m_X9_peek [vR a0] M Q := Cl.intro (k := 1) (by decide) rfl rfl h

-- TwoPencils$Tape.pass()V
theorem b_X9_pass_0 {X : Cx} {d kc ns : Nat} {M : Mem} {Q : Option AV → Mem → Prop} {l0 : Nat} (hS : TaS M l0)
    (h : ∀ M1 : Mem, M1 = sI M l0 2 ((mI M l0 2) + (nI 1)) → Q none M1) :
    WA X d kc ns m_X9_pass 0 [some (vR l0)] [] M Q := by
  refine x_aload_n (tk K_X9_pass 0 rfl) rfl rfl ?_
  refine x_dup (tk K_X9_pass 1 rfl) rfl ?_
  refine x_getI (tk K_X9_pass 2 rfl) f_X9_19 rfl (TaS.o hS) ?_
  refine x_iconst (tk K_X9_pass 3 rfl) ic_1 ?_
  refine x_iadd (tk K_X9_pass 4 rfl) ?_
  have h := h _ rfl
  refine x_putI (tk K_X9_pass 5 rfl) f_X9_19 rfl (Or.inl rfl) (TaS.o hS) ?_
  exact x_return (tk K_X9_pass 6 rfl) rfl h

theorem e_X9_pass {X : Cx} {d kc ns : Nat} {M : Mem} {Q : Option AV → Mem → Prop} {a0 : Nat} (h : WA X d kc ns m_X9_pass 0 [some (vR a0)] [] M Q) : Cl X d kc ns m_X9_pass [vR a0] M Q := Cl.intro (k := 0) (by decide) rfl rfl h

-- TwoPencils$Tape.take(C)Z
theorem b_X9_take_0 {X : Cx} {d kc ns : Nat} {M : Mem} {Q : Option AV → Mem → Prop} {l0 : Nat} {l1 : Int32} (hS : TaS M l0) (hd : 1 ≤ d)
    (h : Cl X (d - 1) 0 0 m_X9_peek [vR l0] M (fun r M1 => ∃ x1 : Int32, r = some (vI x1) ∧ Ext M M1 ∧ ((x1 = l1 → ∀ M2 : Mem, M2 = sI M1 l0 2 ((mI M1 l0 2) + (nI 1)) → Q (some (vI (nI 1))) M2) ∧ (¬ x1 = l1 → Cl X (d - 1) 0 0 m_X9_refuse [vR l0, vI (mI M1 l0 2)] M1 (fun r M3 => ∃ x2 : Int32, r = some (vI x2) ∧ Ext M1 M3 ∧ (isB x2 ∧ Q (some (vI x2)) M3)))))) :
    WA X d kc ns m_X9_take 0 [some (vR l0), some (vI l1)] [] M Q := by
  refine x_aload_n (tk K_X9_take 0 rfl) rfl rfl ?_
  refine x_callV0 (As := []) (S := []) (tk K_X9_take 1 rfl) mk_X9_25 mo_X9_peek (TaS.o hS) rfl rfl (Nat.le_of_ble_eq_true rfl) hd h (fun r M1 hq => ?_)
  obtain ⟨x1, rfl, hE, h⟩ := hq
  have hT0 := TaS.ext hS hE
  refine x_iload_n (tk K_X9_take 2 rfl) rfl rfl ?_
  refine x_icmp_eq (t := 17) (tk K_X9_take 3 rfl) rfl (fun hc => ?_) (fun hc => ?_)
  · have h := h.1 hc
    refine x_aload_n (tk K_X9_take 9 rfl) rfl rfl ?_
    refine x_dup (tk K_X9_take 10 rfl) rfl ?_
    refine x_getI (tk K_X9_take 11 rfl) f_X9_19 rfl (TaS.o hT0) ?_
    refine x_iconst (tk K_X9_take 12 rfl) ic_1 ?_
    refine x_iadd (tk K_X9_take 13 rfl) ?_
    have h := h _ rfl
    refine x_putI (tk K_X9_take 14 rfl) f_X9_19 rfl (Or.inl rfl) (TaS.o hT0) ?_
    refine x_iconst (tk K_X9_take 15 rfl) ic_1 ?_
    exact x_ireturn (tk K_X9_take 16 rfl) rfl (fitZ (Or.inr rfl)).1 h
  · have h := h.2 hc
    refine x_aload_n (tk K_X9_take 4 rfl) rfl rfl ?_
    refine x_aload_n (tk K_X9_take 5 rfl) rfl rfl ?_
    refine x_getI (tk K_X9_take 6 rfl) f_X9_19 rfl (TaS.o hT0) ?_
    refine x_callV0 (As := [vI _]) (S := []) (tk K_X9_take 7 rfl) mk_X9_29 mo_X9_refuse (TaS.o hT0) rfl rfl (Nat.le_of_ble_eq_true rfl) hd h (fun r M3 hq => ?_)
    obtain ⟨x2, rfl, hE, h⟩ := hq
    have hT1 := TaS.ext hT0 hE
    exact x_ireturn (tk K_X9_take 8 rfl) rfl (fitZ h.1).1 h.2

theorem e_X9_take {X : Cx} {d kc ns : Nat} {M : Mem} {Q : Option AV → Mem → Prop} {a0 : Nat} {a1 : Int32} (h : WA X d kc ns m_X9_take 0 [some (vR a0), some (vI a1)] [] M Q) : Cl X d kc ns m_X9_take [vR a0, vI a1] M Q := Cl.intro (k := 0) (by decide) rfl rfl h

-- TwoPencils$Tape.refuse(I)Z
theorem b_X9_refuse_0 {X : Cx} {d kc ns : Nat} {M : Mem} {Q : Option AV → Mem → Prop} {l0 : Nat} {l1 : Int32} (hS : TaS M l0)
    (h : ∀ M1 : Mem, M1 = sI M l0 3 l1 → Q (some (vI (nI 0))) M1) :
    WA X d kc ns m_X9_refuse 0 [some (vR l0), some (vI l1)] [] M Q := by
  refine x_aload_n (tk K_X9_refuse 0 rfl) rfl rfl ?_
  refine x_iload_n (tk K_X9_refuse 1 rfl) rfl rfl ?_
  have h := h _ rfl
  refine x_putI (tk K_X9_refuse 2 rfl) f_X9_22 rfl (Or.inl rfl) (TaS.o hS) ?_
  refine x_iconst (tk K_X9_refuse 3 rfl) ic_0 ?_
  exact x_ireturn (tk K_X9_refuse 4 rfl) rfl (fitZ (Or.inl rfl)).1 h

theorem e_X9_refuse {X : Cx} {d kc ns : Nat} {M : Mem} {Q : Option AV → Mem → Prop} {a0 : Nat} {a1 : Int32} (h : WA X d kc ns m_X9_refuse 0 [some (vR a0), some (vI a1)] [] M Q) : Cl X d kc ns m_X9_refuse [vR a0, vI a1] M Q := Cl.intro (k := 0) (by decide) rfl rfl h

-- TwoPencils$Tape.number(III)I
theorem b_X9_number_0 {X : Cx} {d kc ns : Nat} {M : Mem} {Q : Option AV → Mem → Prop} {l0 : Nat} {l1 : Int32} {l2 : Int32} {l3 : Int32} (hS : TaS M l0) (hd : 1 ≤ d)
    (h : Cl X (d - 1) 0 0 m_X9_peek [vR l0] M (fun r M1 => ∃ x1 : Int32, r = some (vI x1) ∧ Ext M M1 ∧ WA X d kc ns m_X9_number 11 [some (vR l0), some (vI l1), some (vI l2), some (vI l3), some (vI (nI 0)), some (vI (nI 0))] [] M1 Q)) :
    WA X d kc ns m_X9_number 0 [some (vR l0), some (vI l1), some (vI l2), some (vI l3), none, none] [] M Q := by
  refine x_aload_n (tk K_X9_number 0 rfl) rfl rfl ?_
  refine x_callV0 (As := []) (S := []) (tk K_X9_number 1 rfl) mk_X9_25 mo_X9_peek (TaS.o hS) rfl rfl (Nat.le_of_ble_eq_true rfl) hd h (fun r M1 hq => ?_)
  obtain ⟨x1, rfl, hE, h⟩ := hq
  have hT0 := TaS.ext hS hE
  refine x_pop (tk K_X9_number 2 rfl) rfl ?_
  refine x_iconst (tk K_X9_number 3 rfl) ic_0 ?_
  refine x_istore (L' := [some (vR _), some (vI _), some (vI _), some (vI _), some (vI _), none]) (tk K_X9_number 4 rfl) rfl (Nat.le_of_ble_eq_true rfl) rfl ?_
  refine x_iconst (tk K_X9_number 5 rfl) ic_0 ?_
  refine x_istore (L' := [some (vR _), some (vI _), some (vI _), some (vI _), some (vI _), some (vI _)]) (tk K_X9_number 6 rfl) rfl (Nat.le_of_ble_eq_true rfl) rfl ?_
  exact h

theorem b_X9_number_11 {X : Cx} {d kc ns : Nat} {M : Mem} {Q : Option AV → Mem → Prop} {l0 : Nat} {l1 : Int32} {l2 : Int32} {l3 : Int32} {l4 : Int32} {l5 : Int32} (hS : TaS M l0)
    (h : (((nI 4) ≤ l5 → WA X d kc ns m_X9_number 92 [some (vR l0), some (vI l1), some (vI l2), some (vI l3), some (vI l4), some (vI l5)] [] M Q) ∧ (¬ (nI 4) ≤ l5 → (((mI M l0 1) ≤ (mI M l0 2) → WA X d kc ns m_X9_number 92 [some (vR l0), some (vI l1), some (vI l2), some (vI l3), some (vI l4), some (vI l5)] [] M Q) ∧ (¬ (mI M l0 1) ≤ (mI M l0 2) → vp_in (mI M l0 2) 300 ∧ (((mI M (l0 + 1) (ix (mI M l0 2))) < (nI 48) → WA X d kc ns m_X9_number 92 [some (vR l0), some (vI l1), some (vI l2), some (vI l3), some (vI l4), some (vI l5)] [] M Q) ∧ (¬ (mI M (l0 + 1) (ix (mI M l0 2))) < (nI 48) → vp_in (mI M l0 2) 300 ∧ (((nI 57) < (mI M (l0 + 1) (ix (mI M l0 2))) → WA X d kc ns m_X9_number 92 [some (vR l0), some (vI l1), some (vI l2), some (vI l3), some (vI l4), some (vI l5)] [] M Q) ∧ (¬ (nI 57) < (mI M (l0 + 1) (ix (mI M l0 2))) → vp_in (mI M l0 2) 300 ∧ ∀ x1 : Int32, x1 = (((l4 * (nI 10)) + (mI M (l0 + 1) (ix (mI M l0 2)))) - (nI 48)) → ∀ M1 : Mem, M1 = sI M l0 2 ((mI M l0 2) + (nI 1)) → WA X d kc ns m_X9_number 11 [some (vR l0), some (vI l1), some (vI l2), some (vI l3), some (vI x1), some (vI (l5 + (nI 1)))] [] M1 Q))))))))) :
    WA X d kc ns m_X9_number 11 [some (vR l0), some (vI l1), some (vI l2), some (vI l3), some (vI l4), some (vI l5)] [] M Q := by
  refine x_iload (tk K_X9_number 7 rfl) rfl ?_
  refine x_iconst (tk K_X9_number 8 rfl) ic_4 ?_
  refine x_icmp_ge (t := 92) (tk K_X9_number 9 rfl) rfl (fun hc => ?_) (fun hc => ?_)
  · have h := h.1 hc
    exact h
  · have h := h.2 hc
    refine x_aload_n (tk K_X9_number 10 rfl) rfl rfl ?_
    refine x_getI (tk K_X9_number 11 rfl) f_X9_19 rfl (TaS.o hS) ?_
    refine x_aload_n (tk K_X9_number 12 rfl) rfl rfl ?_
    refine x_getI (tk K_X9_number 13 rfl) f_X9_15 rfl (TaS.o hS) ?_
    refine x_icmp_ge (t := 92) (tk K_X9_number 14 rfl) rfl (fun hc => ?_) (fun hc => ?_)
    · have h := h.1 hc
      exact h
    · have h := h.2 hc
      refine x_aload_n (tk K_X9_number 15 rfl) rfl rfl ?_
      refine x_getRc (tk K_X9_number 16 rfl) f_X9_9 rfl (TaS.o hS) (TaS.r0 hS) ?_
      refine x_aload_n (tk K_X9_number 17 rfl) rfl rfl ?_
      refine x_getI (tk K_X9_number 18 rfl) f_X9_19 rfl (TaS.o hS) ?_
      have hi := h.1
      have h := h.2
      refine x_cald (tk K_X9_number 19 rfl) (TaS.k0 hS) hi ?_
      refine x_bipush (tk K_X9_number 20 rfl) bp_48 ?_
      refine x_icmp_lt (t := 92) (tk K_X9_number 21 rfl) rfl (fun hc => ?_) (fun hc => ?_)
      · have h := h.1 hc
        exact h
      · have h := h.2 hc
        refine x_aload_n (tk K_X9_number 22 rfl) rfl rfl ?_
        refine x_getRc (tk K_X9_number 23 rfl) f_X9_9 rfl (TaS.o hS) (TaS.r0 hS) ?_
        refine x_aload_n (tk K_X9_number 24 rfl) rfl rfl ?_
        refine x_getI (tk K_X9_number 25 rfl) f_X9_19 rfl (TaS.o hS) ?_
        have hi := h.1
        have h := h.2
        refine x_cald (tk K_X9_number 26 rfl) (TaS.k0 hS) hi ?_
        refine x_bipush (tk K_X9_number 27 rfl) bp_57 ?_
        refine x_icmp_gt (t := 92) (tk K_X9_number 28 rfl) rfl (fun hc => ?_) (fun hc => ?_)
        · have h := h.1 hc
          exact h
        · have h := h.2 hc
          refine x_iload (tk K_X9_number 29 rfl) rfl ?_
          refine x_bipush (tk K_X9_number 30 rfl) bp_10 ?_
          refine x_imul (tk K_X9_number 31 rfl) ?_
          refine x_aload_n (tk K_X9_number 32 rfl) rfl rfl ?_
          refine x_getRc (tk K_X9_number 33 rfl) f_X9_9 rfl (TaS.o hS) (TaS.r0 hS) ?_
          refine x_aload_n (tk K_X9_number 34 rfl) rfl rfl ?_
          refine x_getI (tk K_X9_number 35 rfl) f_X9_19 rfl (TaS.o hS) ?_
          have hi := h.1
          have h := h.2
          refine x_cald (tk K_X9_number 36 rfl) (TaS.k0 hS) hi ?_
          refine x_iadd (tk K_X9_number 37 rfl) ?_
          refine x_bipush (tk K_X9_number 38 rfl) bp_48 ?_
          refine x_isub (tk K_X9_number 39 rfl) ?_
          have h := h _ rfl
          refine x_istore (L' := [some (vR _), some (vI _), some (vI _), some (vI _), some (vI _), some (vI _)]) (tk K_X9_number 40 rfl) rfl (Nat.le_of_ble_eq_true rfl) rfl ?_
          refine x_aload_n (tk K_X9_number 41 rfl) rfl rfl ?_
          refine x_dup (tk K_X9_number 42 rfl) rfl ?_
          refine x_getI (tk K_X9_number 43 rfl) f_X9_19 rfl (TaS.o hS) ?_
          refine x_iconst (tk K_X9_number 44 rfl) ic_1 ?_
          refine x_iadd (tk K_X9_number 45 rfl) ?_
          have h := h _ rfl
          refine x_putI (tk K_X9_number 46 rfl) f_X9_19 rfl (Or.inl rfl) (TaS.o hS) ?_
          refine x_iincW (L' := [some (vR _), some (vI _), some (vI _), some (vI _), some (vI _), some (vI _)]) (tk K_X9_number 47 rfl) rfl ic_1 rfl (Nat.le_of_ble_eq_true rfl) rfl ?_
          refine x_goto (t := 11) (tk K_X9_number 48 rfl) rfl ?_
          exact h

theorem b_X9_number_92 {X : Cx} {d kc ns : Nat} {M : Mem} {Q : Option AV → Mem → Prop} {l0 : Nat} {l1 : Int32} {l2 : Int32} {l3 : Int32} {l4 : Int32} {l5 : Int32} (hS : TaS M l0) (hd : 1 ≤ d)
    (h : ((¬ l5 = nI 0 → ((l5 = (nI 4) → WA X d kc ns m_X9_number 132 [some (vR l0), none, none, none, none, none] [] M Q) ∧ (¬ l5 = (nI 4) → ((l4 < l1 → WA X d kc ns m_X9_number 132 [some (vR l0), none, none, none, none, none] [] M Q) ∧ (¬ l4 < l1 → ((l2 < l4 → WA X d kc ns m_X9_number 132 [some (vR l0), none, none, none, none, none] [] M Q) ∧ (¬ l2 < l4 → ((¬ l4 = l3 → Q (some (vI l4)) M) ∧ (l4 = l3 → WA X d kc ns m_X9_number 132 [some (vR l0), none, none, none, none, none] [] M Q))))))))) ∧ (l5 = nI 0 → Cl X (d - 1) 0 0 m_X9_refuse [vR l0, vI (mI M l0 2)] M (fun r M1 => ∃ x1 : Int32, r = some (vI x1) ∧ Ext M M1 ∧ Q (some (vI (-1))) M1)))) :
    WA X d kc ns m_X9_number 92 [some (vR l0), some (vI l1), some (vI l2), some (vI l3), some (vI l4), some (vI l5)] [] M Q := by
  refine x_iload (tk K_X9_number 49 rfl) rfl ?_
  refine x_if_ne (t := 108) (tk K_X9_number 50 rfl) rfl (fun hc => ?_) (fun hc => ?_)
  · have h := h.1 hc
    refine x_iload (tk K_X9_number 58 rfl) rfl ?_
    refine x_iconst (tk K_X9_number 59 rfl) ic_4 ?_
    refine x_icmp_eq (t := 132) (tk K_X9_number 60 rfl) rfl (fun hc => ?_) (fun hc => ?_)
    · have h := h.1 hc
      refine x_msk [true, false, false, false, false, false] ?_
      exact h
    · have h := h.2 hc
      refine x_iload (tk K_X9_number 61 rfl) rfl ?_
      refine x_iload_n (tk K_X9_number 62 rfl) rfl rfl ?_
      refine x_icmp_lt (t := 132) (tk K_X9_number 63 rfl) rfl (fun hc => ?_) (fun hc => ?_)
      · have h := h.1 hc
        refine x_msk [true, false, false, false, false, false] ?_
        exact h
      · have h := h.2 hc
        refine x_iload (tk K_X9_number 64 rfl) rfl ?_
        refine x_iload_n (tk K_X9_number 65 rfl) rfl rfl ?_
        refine x_icmp_gt (t := 132) (tk K_X9_number 66 rfl) rfl (fun hc => ?_) (fun hc => ?_)
        · have h := h.1 hc
          refine x_msk [true, false, false, false, false, false] ?_
          exact h
        · have h := h.2 hc
          refine x_iload (tk K_X9_number 67 rfl) rfl ?_
          refine x_iload_n (tk K_X9_number 68 rfl) rfl rfl ?_
          refine x_icmp_ne (t := 145) (tk K_X9_number 69 rfl) rfl (fun hc => ?_) (fun hc => ?_)
          · have h := h.1 hc
            refine x_iload (tk K_X9_number 79 rfl) rfl ?_
            exact x_ireturn (tk K_X9_number 80 rfl) rfl rfl h
          · have h := h.2 hc
            refine x_msk [true, false, false, false, false, false] ?_
            exact h
  · have h := h.2 hc
    refine x_aload_n (tk K_X9_number 51 rfl) rfl rfl ?_
    refine x_aload_n (tk K_X9_number 52 rfl) rfl rfl ?_
    refine x_getI (tk K_X9_number 53 rfl) f_X9_19 rfl (TaS.o hS) ?_
    refine x_callV0 (As := [vI _]) (S := []) (tk K_X9_number 54 rfl) mk_X9_29 mo_X9_refuse (TaS.o hS) rfl rfl (Nat.le_of_ble_eq_true rfl) hd h (fun r M1 hq => ?_)
    obtain ⟨x1, rfl, hE, h⟩ := hq
    have hT0 := TaS.ext hS hE
    refine x_pop (tk K_X9_number 55 rfl) rfl ?_
    refine x_iconst (tk K_X9_number 56 rfl) ic_m1 ?_
    exact x_ireturn (tk K_X9_number 57 rfl) rfl rfl h

theorem b_X9_number_132 {X : Cx} {d kc ns : Nat} {M : Mem} {Q : Option AV → Mem → Prop} {l0 : Nat} (hS : TaS M l0) (hd : 1 ≤ d)
    (h : Cl X (d - 1) 0 0 m_X9_refuse [vR l0, vI ((mI M l0 2) - (nI 1))] M (fun r M1 => ∃ x1 : Int32, r = some (vI x1) ∧ Ext M M1 ∧ Q (some (vI (-1))) M1)) :
    WA X d kc ns m_X9_number 132 [some (vR l0), none, none, none, none, none] [] M Q := by
  refine x_aload_n (tk K_X9_number 70 rfl) rfl rfl ?_
  refine x_aload_n (tk K_X9_number 71 rfl) rfl rfl ?_
  refine x_getI (tk K_X9_number 72 rfl) f_X9_19 rfl (TaS.o hS) ?_
  refine x_iconst (tk K_X9_number 73 rfl) ic_1 ?_
  refine x_isub (tk K_X9_number 74 rfl) ?_
  refine x_callV0 (As := [vI _]) (S := []) (tk K_X9_number 75 rfl) mk_X9_29 mo_X9_refuse (TaS.o hS) rfl rfl (Nat.le_of_ble_eq_true rfl) hd h (fun r M1 hq => ?_)
  obtain ⟨x1, rfl, hE, h⟩ := hq
  have hT0 := TaS.ext hS hE
  refine x_pop (tk K_X9_number 76 rfl) rfl ?_
  refine x_iconst (tk K_X9_number 77 rfl) ic_m1 ?_
  exact x_ireturn (tk K_X9_number 78 rfl) rfl rfl h

theorem e_X9_number {X : Cx} {d kc ns : Nat} {M : Mem} {Q : Option AV → Mem → Prop} {a0 : Nat} {a1 : Int32} {a2 : Int32} {a3 : Int32} (h : WA X d kc ns m_X9_number 0 [some (vR a0), some (vI a1), some (vI a2), some (vI a3), none, none] [] M Q) : Cl X d kc ns m_X9_number [vR a0, vI a1, vI a2, vI a3] M Q := Cl.intro (k := 2) (by decide) rfl rfl h
