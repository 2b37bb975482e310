/-! THE CLASS: land of the object -/
section LANDC
variable {X : Cx} {d kc ns : Nat} {M : Mem} {s : StT} {T : AdT} {Q : Option AV → Mem → Prop}
theorem kp10_land (hd : 8 ≤ d) (h : CI M s T) (hkc : sNl s < 6 → (landT (sZ s) (sT s)).1 = none → 12 ≤ kc ∧ 81 + 4 * 2 ^ (landT (sZ s) (sT s)).2.1 ≤ ns)
    (hq : ∀ B T', (T' = T ∨ (sNl s < 6 ∧ (landT (sZ s) (sT s)).1 = none ∧ T' = growL T (sNl s) (nx M))) → CI B (landS s) T' → OFr M B → Q (some (vI (aLand s))) B) : Cl X d kc ns m_X10_land [vR 1] M Q := by
  have h6 := h.1.2.2.1.1
  have hlw := landT_w (sZ s) (sT s) h.2.1.2.2.1
  unfold landS aLand at hq
  refine e_X10_land (b_X10_land_0 h.1.1 (by omega) ?_)
  rw [h.2.2.1.1.1, na_le (by decide) (by omega)]
  refine ⟨fun q => ?_, fun q => ?_⟩
  · rw [if_pos (by omega), if_pos (by omega)] at hq
    exact hq M T (Or.inl rfl) h OFr.refl
  rw [if_neg (by omega), if_neg (by omega)] at hq
  refine kp_readLand (by omega) h.1.1.k1 h.2.1 (fun B i hFB hP => ?_)
  obtain ⟨c1, c2⟩ := h.rd (w := (landT (sZ s) (sT s)).1) (i := i) hFB (fun b k q => by unfold lxS at q; omega)
  have nM1 : nx (kst B (landT (sZ s) (sT s)).1 i) = nx M := by
    have e1 : nx (kst B (landT (sZ s) (sT s)).1 i) = nx B := by unfold nx; rw [kst_fr.2]
    have e2 : nx B = nx M := by unfold nx; rw [hFB.2]
    rw [e1, e2]
  refine ⟨_, rfl, c2.2.2, fun z => ?_, fun z => ?_⟩
  · rw [oI_none (fun f hf => by have := hlw f hf; omega)] at z
    have hPB := (hP z).fr (kst_fr (w := (landT (sZ s) (sT s)).1) (i := i)) (fun a k q1 q2 w => by unfold tpS at w; omega)
    have hO := landT_P z
    obtain ⟨k3, n10⟩ := hkc (by omega) z
    rw [z] at hq
    dsimp only at hq
    generalize hR : (landT (sZ s) (sT s)).2 = R at hPB hO hq n10
    generalize kst B (landT (sZ s) (sT s)).1 i = M1 at c1 c2 nM1 hPB
    have l90 : 105 ≤ nx M1 := c1.2.2.2.2.2.2.2.2.2.2.2.2.2
    refine ⟨by omega, by omega, fun M2 e2 => ⟨kc - 1, ns - 16, Nat.le_refl _, Nat.le_refl _, ?_⟩⟩
    have F2 : Fal (fun _ _ => False) (fun _ _ => False) M1 M2 := by rw [e2]; exact Fal.nw
    have E2 : Ext M1 M2 := F2.ext (fun _ _ _ _ q => q.elim)
    have x2 : nx M2 = nx M1 + 1 := by rw [e2, nx_nw]
    have ha : isK M2 (nx M1) 3 16 := by rw [e2]; exact isK_nw
    have hL2 : kL M2 R := by
      obtain ⟨p1, p2, p3, p4, p5⟩ := hPB
      have i2 : ∀ b k, b < 105 → mI M2 b k = mI M1 b k := fun b k hb => F2.2.1 b k (by omega) id
      exact ⟨(i2 _ _ (by decide)).trans p1, (i2 _ _ (by decide)).trans p2, (i2 _ _ (by decide)).trans p3, (i2 _ _ (by decide)).trans p4, fun p hp => ⟨fun k hk => (i2 _ _ (by decide)).trans ((p5 p hp).1 k hk), (i2 _ _ (by decide)).trans (p5 p hp).2.1, (i2 _ _ (by decide)).trans (p5 p hp).2.2⟩⟩
    refine kp_landInit (L := R) (by omega) (by omega) (by omega) ha x2 (by omega) (c1.1.1.k1.ext E2) hL2 hO (fun M3 hF3 hn3 hC3 hz3 hst3 hpl3 hrl3 => ?_)
    have F13 := F2.behind hF3 (fun b k hb w => by
      have w : b = nx M1 := w
      omega) (fun b k hb w => by
      have w : b = nx M1 := w
      omega)
    have E13 : Ext M1 M3 := F13.ext (fun _ _ _ _ q => q.elim)
    have t3 := c1.1.1.ext E13
    refine ⟨rfl, 6, t3.2.2.2.2.1.2, hC3.1, ?_⟩
    rw [c1.2.2.1.1.1, na_ix (by omega)]
    refine ⟨na_in (by omega) (by decide), fun M4 e4 => ?_⟩
    have f34 : Frr (grS T 7) grT M3 M4 := by rw [e4]; exact Frr.sR (Or.inr (Or.inl rfl))
    have t4 : TpS M4 := t3.ext (by
      rw [e4]
      exact (Frr.sR (S := fun _ _ => False) (T := fun b _ => b = 11) (M := M3) rfl).ext (fun b k ci n q hk => by
        have q : b = 11 := q
        subst q
        obtain ⟨e1, -⟩ := isK_fun t3.2.2.2.2.1.2 hk
        subst e1; rfl))
    refine ⟨t4, fun M5 e5 M6 e6 => ?_⟩
    have f36 : Frr (grS T 7) grT M3 M6 := f34.trans (by
      rw [e6, e5]
      exact ((Fr.sI (S := grS T 7) (Or.inr (Or.inl ⟨rfl, rfl⟩))).trans (Fr.sI (S := grS T 7) (Or.inr (Or.inr (Or.inl rfl))))).rr)
    have F16 : Fal (grS T 7) grT M1 M6 := (F13.mono (fun _ _ q => q.elim) (fun _ _ q => q.elim)).trans f36.al
    have E16 := F16.ext (grT_ok c1)
    have n6 : nx M6 = nx M1 + 12 := by
      have : nx M6 = nx M3 := by unfold nx; rw [f36.2.2]
      rw [this, hn3]
    have i6 : ∀ b k, (b = 1 → k ≠ 6) → b ≠ 2 → mI M6 b k = mI M3 b k := fun b k q1 q2 => by
      rw [e6]
      have : mI (sI M5 1 6 (mI M5 1 6 + nI 1)) b k = mI M5 b k := by rw [mI_sI, if_neg (fun w => q1 w.1 w.2)]
      rw [this, e5, mI_sI_a q2, e4, mI_sR]
    have r6 : ∀ b k, mR M6 b k = mR M4 b k := fun b k => by rw [e6, mR_sI, e5, mR_sI]
    have c6 : mI M6 1 6 = nI (sNl s + 1) := by
      rw [e6, mI_sI_eq, e5, mI_sI_a (by decide), e4, mI_sR, F13.2.1 1 6 (by omega) id, c1.2.2.1.1.1, nI_add]
    rw [c6, na_sub (by omega), Nat.add_sub_cancel]
    have n1 : ∀ k, mI M3 1 k = mI M1 1 k := fun k => F13.2.1 1 k (by omega) id
    have f36b : Fal (fun b k => b = 1 ∨ b = 2) (fun b k => b = 11) M3 M6 := by
      have a1 : Frr (fun b k => b = 1 ∨ b = 2) (fun b k => b = 11) M3 M4 := by rw [e4]; exact Frr.sR rfl
      have a2 : Frr (fun b k => b = 1 ∨ b = 2) (fun b k => b = 11) M4 M5 := by rw [e5]; exact (Fr.sI (S := fun b k => b = 1 ∨ b = 2) (Or.inr rfl)).rr
      have a3 : Frr (fun b k => b = 1 ∨ b = 2) (fun b k => b = 11) M5 M6 := by rw [e6]; exact (Fr.sI (S := fun b k => b = 1 ∨ b = 2) (Or.inl rfl)).rr
      exact ((a1.trans a2).trans a3).al
    have hl3 : ldX M3 (nx M1) R none false := ⟨hC3, hz3, Or.inr hst3, ⟨hpl3, fun w => by cases w⟩, by rw [hrl3.1]; exact hrl3.2.2.1, hrl3.2.2.2.2⟩
    have hl6 : ldX M6 (nx M1) R none false := hl3.al f36b (f36b.ext (fun b k ci n q hk => by
      have q : b = 11 := q
      subst q
      obtain ⟨e1, -⟩ := isK_fun t3.2.2.2.2.1.2 hk
      subst e1; rfl)) (fun b k q1 q2 w => by
        have w : b = 1 ∨ b = 2 := w
        omega) (fun k w => by
        have w : nx M1 + 9 = 11 := w
        omega) (fun q hq => by cases hq)
    obtain ⟨r1, r2⟩ := c1.nl (L := R) (by omega) hO F16 E16 ⟨c1.2.1.1.ext E16, by rw [e6, mI_sI_a (by decide), e5, mI_sI_eq], by omega, fun j hj => absurd hj (Nat.not_lt_zero _)⟩ ⟨c6, by rw [i6 _ _ (by decide) (by decide), n1]; exact c1.2.2.1.1.2.1, by rw [i6 _ _ (by decide) (by decide), n1]; exact c1.2.2.1.1.2.2⟩
      (fun k => by
        rw [r6, e4, mR_sR]
        by_cases w : k = sNl s
        · rw [if_pos ⟨rfl, w⟩, if_pos w]
        · rw [if_neg (fun w2 => w w2.2), if_neg w, F13.2.2.1 11 k (by omega) id])
      (fun k => by rw [r6, e4, mR_sR, if_neg (fun w => absurd w.1 (by decide)), F13.2.2.1 12 k (by omega) id])
      (fun k => by rw [r6, e4, mR_sR, if_neg (fun w => absurd w.1 (by decide)), F13.2.2.1 13 k (by omega) id])
      hl6 n6
    rw [nM1] at r1
    exact hq M6 _ (Or.inr ⟨by omega, rfl, rfl⟩) r1 (c2.trans r2)
  · clear nM1
    generalize kst B (landT (sZ s) (sT s)).1 i = M1 at c1 c2 ⊢
    cases hc : (landT (sZ s) (sT s)).1 with
    | none => rw [hc] at z; exact absurd rfl z
    | some e =>
      rw [hc] at hq
      dsimp only at hq
      exact hq _ T (Or.inl rfl) c1 c2
end LANDC
