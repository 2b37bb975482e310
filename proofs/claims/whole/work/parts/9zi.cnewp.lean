/-! THE CLASS: a protocol comes to the object -/
theorem rdT_1 {z : Nat} {t : Nat → Nat} {R : ProT} {i : Nat} (h : (rdT z t R i).1 = none) : 1 ≤ (rdT z t R i).2.2.1 := by
  unfold rdT at h ⊢
  split
  · rename_i q
    rw [if_pos q] at h; cases h
  · split
    · exact Nat.succ_pos _
    · exact Nat.succ_pos _
theorem rdsT_P {z : Nat} {t : Nat → Nat} : ∀ (f : Nat) (w : Option Nat) (i : Nat) (R : ProT), RnOK R → (w = none → 1 ≤ R.1) → RnOK (rdsT z t f w i R).2 ∧ ((rdsT z t f w i R).1 = none → 1 ≤ (rdsT z t f w i R).2.1)
  | 0, w, i, R, h1, h2 => ⟨h1, h2⟩
  | f + 1, some e, i, R, h1, h2 => ⟨h1, fun q => by cases q⟩
  | f + 1, none, i, R, h1, h2 => by
    unfold rdsT
    split
    · exact rdsT_P f _ _ _ (rdT_ok h1) (fun q => rdT_1 q)
    · split
      · exact ⟨h1, fun q => by cases q⟩
      · exact ⟨h1, fun _ => h2 rfl⟩
theorem protT_P {z : Nat} {t : Nat → Nat} (h : (protT z t).1 = none) : ProOK (protT z t).2 := by
  have h0 : RnOK R0 := ⟨by decide, fun r => ⟨by show (0 : Nat) ≤ 1; omega, by show (3 : Nat) ≤ 3; omega⟩⟩
  obtain ⟨a, b⟩ := rdsT_P (z := z) (t := t) 301 (rdT z t R0 0).1 (rdT z t R0 0).2.1 (rdT z t R0 0).2.2 (rdT_ok h0) (fun q => rdT_1 q)
  exact ⟨b h, a.1, a.2⟩
section NEWP
variable {X : Cx} {d kc ns : Nat} {M : Mem} {s : StT} {T : AdT} {Q : Option AV → Mem → Prop}
theorem grT_ok (h : CI M s T) : ∀ b k ci n, grT b k → isK M b ci n → finR ci k = false := fun b k ci n q hk => by
  rcases q with q | q | q | q
  · exact sfT_ok h b k ci n q hk
  · subst q
    obtain ⟨e1, -⟩ := isK_fun h.1.1.2.2.2.2.1.2 hk
    subst e1; rfl
  · subst q
    obtain ⟨e1, -⟩ := isK_fun h.1.1.2.2.2.2.2.1.2 hk
    subst e1; rfl
  · subst q
    obtain ⟨e1, -⟩ := isK_fun h.1.1.2.2.2.2.2.2.1.2 hk
    subst e1; rfl
theorem Fal.behind {S T2 : Nat → Nat → Prop} {A B C : Mem} (h1 : Fal (fun _ _ => False) (fun _ _ => False) A B) (h2 : Fal S T2 B C) (hS : ∀ b k, b < nx A → ¬ S b k) (hT : ∀ b k, b < nx A → ¬ T2 b k) : Fal (fun _ _ => False) (fun _ _ => False) A C :=
  ⟨Nat.le_trans h1.1 h2.1, fun a i ha _ => (h2.2.1 a i (Nat.lt_of_lt_of_le ha h1.1) (hS a i ha)).trans (h1.2.1 a i ha id), fun a i ha _ => (h2.2.2.1 a i (Nat.lt_of_lt_of_le ha h1.1) (hT a i ha)).trans (h1.2.2.1 a i ha id), fun a i ha => (h2.2.2.2.1 a i (Nat.lt_of_lt_of_le ha h1.1)).trans (h1.2.2.2.1 a i ha), fun a k n q => h2.2.2.2.2 _ _ _ (h1.2.2.2.2 _ _ _ q)⟩
theorem kp10_protocol (hd : 7 ≤ d) (h : CI M s T) (hkc : sNp s < 8 → (protT (sZ s) (sT s)).1 = none → 3 ≤ kc ∧ 10 ≤ ns)
    (hq : ∀ B T', (T' = T ∨ (sNp s < 8 ∧ (protT (sZ s) (sT s)).1 = none ∧ T' = growP T (sNp s) (nx M))) → CI B (protS s) T' → OFr M B → Q (some (vI (aProt s))) B) : Cl X d kc ns m_X10_protocol [vR 1] M Q := by
  have h8 := h.1.2.2.2.1.1
  have hlw := protT_w (sZ s) (sT s) h.2.1.2.2.1
  unfold protS aProt at hq
  refine e_X10_protocol (b_X10_protocol_0 h.1.1 (by omega) ?_)
  rw [h.2.2.1.1.2.1, na_le (by decide) (by omega)]
  refine ⟨fun q => ?_, fun q => ?_⟩
  · rw [if_pos (by omega), if_pos (by omega)] at hq
    exact hq M T (Or.inl rfl) h OFr.refl
  rw [if_neg (by omega), if_neg (by omega)] at hq
  refine kp_readProtocol (by omega) h.1.1.k2 h.2.1 (fun B i hFB hP => ?_)
  obtain ⟨c1, c2⟩ := h.rd (w := (protT (sZ s) (sT s)).1) (i := i) hFB (fun b k q => by unfold pxS at q; omega)
  have nM1 : nx (kst B (protT (sZ s) (sT s)).1 i) = nx M := by
    have e1 : nx (kst B (protT (sZ s) (sT s)).1 i) = nx B := by unfold nx; rw [kst_fr.2]
    have e2 : nx B = nx M := by unfold nx; rw [hFB.2]
    rw [e1, e2]
  refine ⟨_, rfl, c2.2.2, fun z => ?_, fun z => ?_⟩
  · rw [oI_none (fun f hf => by have := hlw f hf; omega)] at z
    have hPB := (hP z).fr (kst_fr (w := (protT (sZ s) (sT s)).1) (i := i)) (fun a k q1 q2 w => by unfold tpS at w; omega)
    have hO := protT_P z
    obtain ⟨k3, n10⟩ := hkc (by omega) z
    rw [z] at hq
    dsimp only at hq
    generalize hR : (protT (sZ s) (sT s)).2 = R at hPB hO hq
    generalize kst B (protT (sZ s) (sT s)).1 i = M1 at c1 c2 nM1 hPB
    have l90 : 105 ≤ nx M1 := c1.2.2.2.2.2.2.2.2.2.2.2.2.2
    refine ⟨by omega, by omega, fun M2 e2 => ⟨kc - 1, ns - 2, Nat.le_refl _, Nat.le_refl _, ?_⟩⟩
    have F2 : Fal (fun _ _ => False) (fun _ _ => False) M1 M2 := by rw [e2]; exact Fal.nw
    have E2 : Ext M1 M2 := F2.ext (fun _ _ _ _ q => q.elim)
    have x2 : nx M2 = nx M1 + 1 := by rw [e2, nx_nw]
    have ha : isK M2 (nx M1) 6 2 := by rw [e2]; exact isK_nw
    refine kp_protocol (R := R) (by omega) (by omega) (by omega) ha x2 (by omega) (c1.1.1.k2.ext E2) ⟨(F2.2.1 8 0 (by omega) id).trans hPB.1, fun r hr => ⟨(F2.2.1 9 r (by omega) id).trans (hPB.2 r hr).1, (F2.2.1 10 r (by omega) id).trans (hPB.2 r hr).2⟩⟩ ⟨hO.1, hO.2.1⟩ (fun M3 hF3 hn3 hS3 hv3 => ?_)
    have F13 := F2.behind hF3 (fun _ _ _ => id) (fun b k hb w => by
      have w : b = nx M1 := w
      omega)
    have E13 : Ext M1 M3 := F13.ext (fun _ _ _ _ q => q.elim)
    have t3 := c1.1.1.ext E13
    refine ⟨rfl, 8, t3.2.2.2.2.2.1.2, hS3, ?_⟩
    rw [c1.2.2.1.1.2.1, na_ix (by omega)]
    refine ⟨na_in (by omega) (by decide), fun M4 e4 => ?_⟩
    have f34 : Frr (grS T 7) grT M3 M4 := by rw [e4]; exact Frr.sR (Or.inr (Or.inr (Or.inl rfl)))
    have t4 : TpS M4 := t3.ext (by
      rw [e4]
      exact (Frr.sR (S := fun _ _ => False) (T := fun b _ => b = 12) (M := M3) rfl).ext (fun b k ci n q hk => by
        have q : b = 12 := q
        subst q
        obtain ⟨e1, -⟩ := isK_fun t3.2.2.2.2.2.1.2 hk
        subst e1; rfl))
    refine ⟨t4, fun M5 e5 M6 e6 => ?_⟩
    have f36 : Frr (grS T 7) grT M3 M6 := f34.trans (by
      rw [e6, e5]
      exact ((Fr.sI (S := grS T 7) (Or.inr (Or.inl ⟨rfl, rfl⟩))).trans (Fr.sI (S := grS T 7) (Or.inr (Or.inr (Or.inl rfl))))).rr)
    have F16 : Fal (grS T 7) grT M1 M6 := (F13.mono (fun _ _ q => q.elim) (fun _ _ q => q.elim)).trans f36.al
    have E16 := F16.ext (grT_ok c1)
    have n6 : nx M6 = nx M1 + 3 := by
      have : nx M6 = nx M3 := by unfold nx; rw [f36.2.2]
      rw [this, hn3]
    have i6 : ∀ b k, (b = 1 → k ≠ 7) → b ≠ 2 → mI M6 b k = mI M3 b k := fun b k q1 q2 => by
      rw [e6]
      have : mI (sI M5 1 7 (mI M5 1 7 + nI 1)) b k = mI M5 b k := by rw [mI_sI, if_neg (fun w => q1 w.1 w.2)]
      rw [this, e5, mI_sI_a q2, e4, mI_sR]
    have r6 : ∀ b k, mR M6 b k = mR M4 b k := fun b k => by rw [e6, mR_sI, e5, mR_sI]
    have c7 : mI M6 1 7 = nI (sNp s + 1) := by
      rw [e6, mI_sI_eq, e5, mI_sI_a (by decide), e4, mI_sR, F13.2.1 1 7 (by omega) id, c1.2.2.1.1.2.1, nI_add]
    rw [c7, na_sub (by omega), Nat.add_sub_cancel]
    have n1 : ∀ k, mI M3 1 k = mI M1 1 k := fun k => F13.2.1 1 k (by omega) id
    obtain ⟨r1, r2⟩ := c1.np (R := R) (by omega) hO F16 E16 ⟨c1.2.1.1.ext E16, by rw [e6, mI_sI_a (by decide), e5, mI_sI_eq], by omega, fun j hj => absurd hj (Nat.not_lt_zero _)⟩ ⟨by rw [i6 _ _ (by decide) (by decide), n1]; exact c1.2.2.1.1.1, c7, by rw [i6 _ _ (by decide) (by decide), n1]; exact c1.2.2.1.1.2.2⟩
      (fun k => by rw [r6, e4, mR_sR, if_neg (fun w => absurd w.1 (by decide)), F13.2.2.1 11 k (by omega) id])
      (fun k => by
        rw [r6, e4, mR_sR]
        by_cases w : k = sNp s
        · rw [if_pos ⟨rfl, w⟩, if_pos w]
        · rw [if_neg (fun w2 => w w2.2), if_neg w, F13.2.2.1 12 k (by omega) id])
      (fun k => by rw [r6, e4, mR_sR, if_neg (fun w => absurd w.1 (by decide)), F13.2.2.1 13 k (by omega) id])
      ⟨⟨f36.k hS3.1, ⟨by rw [r6, e4, mR_sR, if_neg (fun w => by omega)]; exact hS3.2.1.1, f36.k hS3.2.1.2⟩, ⟨by rw [r6, e4, mR_sR, if_neg (fun w => by omega)]; exact hS3.2.2.1, f36.k hS3.2.2.2⟩⟩, fun k hk => ⟨(i6 _ _ (by omega) (by omega)).trans (hv3 k hk).1, (i6 _ _ (by omega) (by omega)).trans (hv3 k hk).2⟩⟩ n6
    rw [nM1] at r1
    exact hq M6 _ (Or.inr ⟨by omega, rfl, rfl⟩) r1 (c2.trans r2)
  · clear nM1
    generalize kst B (protT (sZ s) (sT s)).1 i = M1 at c1 c2 ⊢
    cases hc : (protT (sZ s) (sT s)).1 with
    | none => rw [hc] at z; exact absurd rfl z
    | some e =>
      rw [hc] at hq
      dsimp only at hq
      exact hq _ T (Or.inl rfl) c1 c2
end NEWP
