/-! THE CLASS: what is told of a parish; and how the law asks it -/
section PARISH
variable {X : Cx} {d kc ns : Nat} {M : Mem} {s : StT} {T : AdT} {Q : Option AV → Mem → Prop} {P : Mem → Prop}
theorem kp10_parish {l p w : Int32} (hfl : X.1.stackTraces = false) (hd : 8 ≤ d) (hkc : 1 ≤ kc) (hns : 6 ≤ ns) (h : CI M s T) (hq : ∀ v, oPar (sNl s) (sLs s) l p w = some v → Q (some (vI (nI v))) M) (hx : oPar (sNl s) (sLs s) l p w = none → P (nw M 21 0)) : CX X d kc ns m_X10_parish [vR 1, vI l, vI p, vI w] M Q P := by
  refine CX.intro (k := 1) rfl rfl rfl (fun pp e st m args below meth c ht => ?_)
  refine z_aload_n (tk K_X10_parish 0 rfl) rfl rfl (z_iload_n (tk K_X10_parish 1 rfl) rfl rfl ?_)
  refine z_callV (my := m_X10_landAt) (As := [vI l]) (S := []) (a := 1) (kc1 := 0) (ns1 := 0) (Q' := fun r M' => M' = M ∧ ((inN l (sNl s) = none ∧ r = some (vR 0)) ∨ ∃ k, inN l (sNl s) = some k ∧ k < sNl s ∧ r = some (vR (aLa T k)))) (tk K_X10_parish 2 rfl) mk_X10_136 mo_X10_landAt h.1.1.o rfl rfl (by decide) (by omega) (Nat.zero_le _) (Nat.zero_le _) (kp_landAt h (fun e1 => ⟨rfl, Or.inl ⟨e1, rfl⟩⟩) (fun k e1 hk => ⟨rfl, Or.inr ⟨k, e1, hk, rfl⟩⟩)) (fun r M' hr => ?_)
  obtain ⟨rfl, hr⟩ := hr
  rw [Nat.sub_zero, Nat.sub_zero]
  have thr : ∀ L, oPar (sNl s) (sLs s) l p w = none → WV (pp, e, rmX d kc ns, st, m, args, below, meth, c, vx_MQ below (QX X Q) (XX X P) args st kc ns (AX X)) (fun _ => True) X d kc ns m_X10_parish 34 L [] M' Q := fun L e9 => z_throw (R := rmX d kc ns) hfl ht hd hkc hns (by decide) (hx e9)
  rcases hr with ⟨e1, rfl⟩ | ⟨k, e1, hk, rfl⟩
  · refine z_astore0 (tk K_X10_parish 3 rfl) rfl (by decide) rfl (z_aload (tk K_X10_parish 4 rfl) rfl (z_ifnull (t := 34) (tk K_X10_parish 5 rfl) rfl (fun _ => thr _ ?_) (fun q => absurd rfl q)))
    unfold oPar; rw [e1]
  have hla : 0 < aLa T k := by have := h.lo hk; omega
  obtain ⟨⟨gL, -, ⟨k0, -⟩, g6, g7, -⟩, -⟩ := h.2.2.2.1 k hk
  have hO := h.1.2.2.1.2 k hk
  have h9 := hO.1
  have mn5 : isK M' (aLa T k + 2) 14 27 := gL.k5
  refine z_astore0 (tk K_X10_parish 3 rfl) rfl (by decide) rfl (z_aload (tk K_X10_parish 4 rfl) rfl (z_ifnull (t := 34) (tk K_X10_parish 5 rfl) rfl (fun q => absurd q (by omega)) (fun _ => ?_)))
  refine z_iload_n (tk K_X10_parish 6 rfl) rfl rfl (z_if_lt (t := 34) (tk K_X10_parish 7 rfl) rfl (fun q => thr _ ?_) (fun q1 => ?_))
  · have q : p < nI 0 := q
    rw [toI_lt0] at q
    have e2 : inN p (sLs s k).1 = none := by unfold inN; rw [if_neg (by omega)]
    unfold oPar; rw [e1]; dsimp only; rw [e2]
  refine z_iload_n (tk K_X10_parish 8 rfl) rfl rfl (z_aload (tk K_X10_parish 9 rfl) rfl (z_getI (tk K_X10_parish 10 rfl) f_X10_140 rfl gL.o (z_icmp_ge (t := 34) (tk K_X10_parish 11 rfl) rfl (fun q => thr _ ?_) (fun q2 => ?_))))
  · rw [k0, n_leI (by omega)] at q
    have e2 : inN p (sLs s k).1 = none := by unfold inN; rw [if_neg (by omega)]
    unfold oPar; rw [e1]; dsimp only; rw [e2]
  have q1' : ¬ p < nI 0 := q1
  rw [toI_lt0] at q1'
  rw [k0, n_leI (by omega)] at q2
  have e2 : inN p (sLs s k).1 = some p.toInt.toNat := by unfold inN; rw [if_pos (by omega)]
  obtain ⟨p1, p2⟩ := inN_some (by omega) e2
  generalize p.toInt.toNat = j at e2 p1 p2
  refine z_iload_n (tk K_X10_parish 12 rfl) rfl rfl (z_if_lt (t := 34) (tk K_X10_parish 13 rfl) rfl (fun q => thr _ ?_) (fun q3 => ?_))
  · have q : w < nI 0 := q
    rw [toI_lt0] at q
    have e3 : inN w 5 = none := by unfold inN; rw [if_neg (by omega)]
    unfold oPar; rw [e1]; dsimp only; rw [e2]; dsimp only; rw [e3]
  have q3' : ¬ w < nI 0 := q3
  rw [toI_lt0] at q3'
  have e5 : (w ≤ nI 4) ↔ w.toInt ≤ 4 := by
    rw [Int32.le_iff_toInt_le, nI_toInt (by decide)]; rfl
  refine z_iload_n (tk K_X10_parish 14 rfl) rfl rfl (z_iconst (tk K_X10_parish 15 rfl) ic_4 (z_icmp_le (t := 42) (tk K_X10_parish 16 rfl) rfl (fun q => ?_) (fun q => thr _ ?_)))
  · rw [e5] at q
    have e3 : inN w 5 = some w.toInt.toNat := by unfold inN; rw [if_pos (by omega)]
    obtain ⟨w1, w2⟩ := inN_some (by decide) e3
    generalize w.toInt.toNat = v at e3 w1 w2
    have hqq := hq _ (by unfold oPar; rw [e1]; dsimp only; rw [e2]; dsimp only; rw [e3])
    subst p1
    subst w1
    refine WV.wx (R := rmX d kc ns) (x_iload_n (tk K_X10_parish 21 rfl) rfl rfl (x_iconst (tk K_X10_parish 22 rfl) ic_3 (x_icmp_ne (t := 55) (tk K_X10_parish 23 rfl) rfl (fun c1 => ?_) (fun c1 => ?_))))
    · rw [na_eq (by omega) (by decide)] at c1
      refine x_iload_n (tk K_X10_parish 29 rfl) rfl rfl (x_iconst (tk K_X10_parish 30 rfl) ic_4 (x_icmp_ne (t := 70) (tk K_X10_parish 31 rfl) rfl (fun c2 => ?_) (fun c2 => ?_)))
      · rw [na_eq (by omega) (by decide)] at c2
        refine x_aload (tk K_X10_parish 37 rfl) rfl (x_getRc (tk K_X10_parish 38 rfl) f_X10_164 rfl gL.o gL.r5 (x_iload_n (tk K_X10_parish 39 rfl) rfl rfl (x_iconst (tk K_X10_parish 40 rfl) ic_3 (x_imul (tk K_X10_parish 41 rfl) (x_iload_n (tk K_X10_parish 42 rfl) rfl rfl (x_iadd (tk K_X10_parish 43 rfl) ?_))))))
        have e9 : nI j * nI 3 + nI v = nI (3 * j + v) := by rw [pk_mul, nI_add, Nat.mul_comm]
        rw [e9]
        refine x_iald (tk K_X10_parish 44 rfl) mn5 (na_in (by omega) (by decide)) ?_
        rw [na_ix (by omega), g6 j (by omega) v (by omega)]
        rw [if_pos (by omega)] at hqq
        exact x_ireturn (tk K_X10_parish 45 rfl) rfl rfl hqq
      · rw [na_eq (by omega) (by decide)] at c2
        refine x_aload (tk K_X10_parish 32 rfl) rfl (x_getRc (tk K_X10_parish 33 rfl) f_X10_161 rfl gL.o gL.r7 (x_iload_n (tk K_X10_parish 34 rfl) rfl rfl (x_iald (tk K_X10_parish 35 rfl) gL.k7 (na_in (by omega) (by decide)) (x_goto (t := 81) (tk K_X10_parish 36 rfl) rfl ?_))))
        rw [na_ix (by omega), (g7 j p2).2]
        rw [if_neg (by omega), if_neg (by omega)] at hqq
        exact x_ireturn (tk K_X10_parish 45 rfl) rfl rfl hqq
    · rw [na_eq (by omega) (by decide)] at c1
      refine x_aload (tk K_X10_parish 24 rfl) rfl (x_getRc (tk K_X10_parish 25 rfl) f_X10_158 rfl gL.o gL.r6 (x_iload_n (tk K_X10_parish 26 rfl) rfl rfl (x_iald (tk K_X10_parish 27 rfl) gL.k6 (na_in (by omega) (by decide)) ?_)))
      rw [na_ix (by omega), (g7 j p2).1]
      rw [if_neg (by omega), if_pos c1] at hqq
      exact x_ireturn (tk K_X10_parish 28 rfl) rfl rfl hqq
  · rw [e5] at q
    have e3 : inN w 5 = none := by unfold inN; rw [if_neg (by omega)]
    unfold oPar; rw [e1]; dsimp only; rw [e2]; dsimp only; rw [e3]
end PARISH
