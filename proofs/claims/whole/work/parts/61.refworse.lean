/-! THE REFERENCE: the worst land, and what is worse -/
def swS (a k : Nat) : Prop := scS a k ∨ a = 102 ∨ a = 103
theorem sc_sw {M B : Mem} (h : Fr scS M B) : Fr swS M B := h.mono (fun a k q => Or.inl q)
theorem sw_rf {M B : Mem} (h : Fr swS M B) : Fr rfS M B := h.mono (fun a k q => by unfold swS scS at q; unfold rfS; omega)
theorem RI.sw {M B : Mem} {s : StT} (h : RI M s) (hF : Fr swS M B) : RI B s := h.fr hF (fun a k q => by unfold swS scS at q; omega)
theorem lcmp_le {a b : Nat} (ha : a < 2 ^ 31) (hb : b < 2 ^ 31) : lcmpV (lN a) (lN b) ≤ nI 0 ↔ ¬ b < a := by
  unfold lcmpV lg_cmp
  by_cases h : b < a
  · rw [if_pos (show lN a > lN b from (lN_lt hb ha).mpr h)]
    exact ⟨fun q => absurd q (by decide), fun q => absurd h q⟩
  · rw [if_neg (show ¬ lN a > lN b from fun q => h ((lN_lt hb ha).mp q))]
    refine ⟨fun _ => h, fun _ => ?_⟩
    split <;> decide
/-- the worst of the first n lands for a protocol, and how far -/
def wrR (Ls : Nat → LandT) (P : ProT) : Nat → Option (Nat × Nat × Nat)
  | 0 => none
  | n + 1 => match frL (Ls n) P with
    | none => wrR Ls P n
    | some e => match wrR Ls P n with
      | none => some (n, e.1, e.2)
      | some b => if b.2.1 * e.2 < e.1 * b.2.2 then some (n, e.1, e.2) else some b
def aWorst (s : StT) (p : Int32) : Int32 := match inN p (sNp s) with
  | none => -1
  | some q => oI ((wrR (sLs s) (sPs s q) (sNl s)).map (fun b => b.1))
def wsB (L : LandT) (P P' : ProT) : Bool := match frL L P with
  | none => false
  | some e => match frL L P' with
    | none => false
    | some f => decide (f.1 * e.2 < e.1 * f.2)
def aWorse (s : StT) (p p' : Int32) : Int32 := match inN p (sNp s) with
  | none => -1
  | some q => match inN p' (sNp s) with
    | none => -1
    | some q' => nI (mkS (sNl s) (fun l => wsB (sLs s l) (sPs s q) (sPs s q')))
section WORST
variable {X : Cx} {s : StT} {Q : Option AV → Mem → Prop}
theorem frL_le {L : LandT} {P : ProT} (hO : LdOK L) {e : Nat × Nat} (h : frL L P = some e) : e.1 ≤ 10692 ∧ e.2 ≤ 10692 := by
  unfold frL at h
  cases hc : enL L P with
  | none => rw [hc] at h; cases h
  | some c => rw [hc] at h; cases h; exact ⟨show farL L c 0 0 ≤ 10692 from farL_le hO, show farL L c 0 1 ≤ 10692 from farL_le hO⟩
theorem sp_findFar {d k l p : Nat} {M : Mem} (hd : 59 ≤ d) (hk : k < 2) (hR : RI M s) (hl : l < sNl s) (hp : p < sNp s)
    (h1 : frL (sLs s l) (sPs s p) = none → ∀ B, Fr swS M B → RI B s → (∀ i, i ≠ k → mI B 102 i = mI M 102 i ∧ mI B 103 i = mI M 103 i) → Q (some (vI (nI 0))) B)
    (h2 : ∀ e, frL (sLs s l) (sPs s p) = some e → ∀ B, Fr swS M B → RI B s → (∀ i, i ≠ k → mI B 102 i = mI M 102 i ∧ mI B 103 i = mI M 103 i) → mI B 102 k = nI e.1 → mI B 103 k = nI e.2 → Q (some (vI (nI 1))) B) : Cl X d 0 0 m_X11_findFar [vR 75, vI (nI k), vI (nI l), vI (nI p)] M Q := by
  have h6 := hR.2.1.2.1.1
  have h8 := hR.2.1.2.2.1.1
  obtain ⟨hO, hL⟩ := hR.lds.2.2 l hl
  have hPO := hR.2.1.2.2.1.2 p hp
  have h4 := p4 hO.1.2
  refine e_X11_findFar (b_X11_findFar_0 hR.1 (by omega) (sp_endedOf (by omega) hR hl hp (fun B hF hRB hH => ⟨_, rfl, hF.ext, ?_⟩)))
  have n87 : ∀ i, mI B 102 i = mI M 102 i ∧ mI B 103 i = mI M 103 i := fun i => ⟨hF.at (by unfold scS; omega), hF.at (by unfold scS; omega)⟩
  cases hc : enL (sLs s l) (sPs s p) with
  | none =>
    refine ⟨fun q => absurd rfl q, fun _ => h1 ?_ B (sc_sw hF) hRB (fun i _ => n87 i)⟩
    unfold frL; rw [hc]
  | some c =>
    obtain ⟨hc4, hj⟩ := enL_ok hO hPO hc
    have hin : vp_in (nI k) 2 := na_in (by omega) (by omega)
    have hx : ix (nI k) = k := na_ix (by omega)
    refine ⟨fun _ => ?_, fun q => absurd q (na_m1 (by omega))⟩
    refine sp_farOf (by omega) hH (by omega) (by omega) (by omega) (jdL_0 hj) ⟨_, rfl, Ext.refl _, hin, fun M3 e3 => ?_⟩
    rw [hx] at e3
    have hF3a : Fr (fun a _ => a = 102) B M3 := by rw [e3]; exact Fr.sI rfl
    have hF3 : Fr swS B M3 := hF3a.mono (fun a k q => Or.inr (Or.inl q))
    have hH3 : rH M3 l (sLs s l) := hH.fr hF3a (fun a i h1 h2 q => by omega) (fun q => by omega) (fun i q => by omega) (fun i q => by omega)
    refine sp_farOf (by omega) hH3 (by omega) (by omega) (by omega) (jdL_0 hj) ⟨_, rfl, Ext.refl _, hin, fun M5 e5 => ?_⟩
    rw [hx] at e5
    have hF5 : Fr swS M3 M5 := by rw [e5]; exact Fr.sI (Or.inr (Or.inr rfl))
    refine h2 (farL (sLs s l) c 0 0, farL (sLs s l) c 0 1) (by unfold frL; rw [hc]) M5 ((sc_sw hF).trans (hF3.trans hF5)) ((hRB.sw hF3).sw hF5) (fun i hi => ?_) ?_ ?_
    · rw [e5, e3, mI_sI_a (by decide), mI_sI_i hi, mI_sI_i hi, mI_sI_a (by decide)]; exact n87 i
    · rw [e5, e3, mI_sI_a (by decide), mI_sI_eq]
    · rw [e5, mI_sI_eq]
theorem sp_isFarther {d u0 d0 u1 d1 : Nat} {M : Mem} (hR : RI M s) (a0 : mI M 102 0 = nI u0) (b0 : mI M 103 0 = nI d0) (a1 : mI M 102 1 = nI u1) (b1 : mI M 103 1 = nI d1) (c0 : u0 ≤ 10692 ∧ d0 ≤ 10692) (c1 : u1 ≤ 10692 ∧ d1 ≤ 10692)
    (h : Q (some (vI (bI (decide (u1 * d0 < u0 * d1))))) M) : Cl X d 0 0 m_X11_isFarther [vR 75, vI (nI 0), vI (nI 1)] M Q := by
  have m1 : u0 * d1 ≤ 10692 * 10692 := Nat.mul_le_mul c0.1 c1.2
  have m2 : u1 * d0 ≤ 10692 * 10692 := Nat.mul_le_mul c1.1 c0.2
  refine e_X11_isFarther (b_X11_isFarther_0 hR.1 ⟨na_in (by omega) (by omega), na_in (by omega) (by omega), na_in (by omega) (by omega), na_in (by omega) (by omega), ?_⟩)
  rw [show ix (nI 0) = 0 from rfl, show ix (nI 1) = 1 from rfl, a0, b0, a1, b1, nI_l (by omega), nI_l (by omega), nI_l (by omega), nI_l (by omega), lN_mul, lN_mul, lcmp_le (by omega) (by omega)]
  refine ⟨fun q => ?_, fun q => ?_⟩
  · rw [decide_eq_false q] at h; exact h
  · rw [decide_eq_true (Classical.byContradiction (fun z => q z))] at h; exact h
theorem rf_worst {dd : Nat} {p : Int32} {M : Mem} (hd : 60 ≤ dd) (hR : RI M s) (h : ∀ B, Fr rfS M B → RI B s → Q (some (vI (aWorst s p))) B) : Cl X dd 0 0 m_X11_worst [vR 75, vI p] M Q := by
  have h6 := hR.2.1.2.1.1
  have h8 := hR.2.1.2.2.1.1
  unfold aWorst at h
  refine e_X11_worst (b_X11_worst_0 hR.1 (by omega) (sp_inN (n := sNp s) (by omega) (by rw [hR.2.2.2.2.1.1]) ⟨_, rfl, Ext.refl _, fun q => ?_, fun q => ?_⟩))
  · have := bI_n0.mp q
    cases hb : inN p (sNp s) with
    | none => rw [hb] at this; cases this
    | some k =>
    rw [hb] at h
    dsimp only at h
    obtain ⟨e1, e2⟩ := inN_some (by omega) hb
    subst e1
    have key : ∀ r n (B : Mem), n + r = sNl s → Fr swS M B → RI B s → (∀ b, wrR (sLs s) (sPs s k) n = some b → b.1 < n ∧ (b.2.1 ≤ 10692 ∧ b.2.2 ≤ 10692) ∧ mI B 102 1 = nI b.2.1 ∧ mI B 103 1 = nI b.2.2) →
        WA X dd 0 0 m_X11_worst 20 [some (vR 75), some (vI (nI k)), some (vI (oI ((wrR (sLs s) (sPs s k) n).map (fun b => b.1)))), some (vI (nI n))] [] B Q := by
      intro r
      induction r with
      | zero =>
        intro n B hn hF hRB _
        obtain rfl : n = sNl s := by omega
        refine b_X11_worst_20 hRB.1 (by omega) ⟨fun _ => h B (sw_rf hF) hRB, fun q => absurd ?_ q⟩
        rw [hRB.lds.1, na_le (by omega) (by omega)]; exact Nat.le_refl _
      | succ r ih =>
        intro n B hn hF hRB hw
        have hO := hRB.2.1.2.1.2 n (by omega)
        refine b_X11_worst_20 hRB.1 (by omega) ⟨fun q => ?_, fun _ => ?_⟩
        · rw [hRB.lds.1, na_le (by omega) (by omega)] at q; omega
        refine sp_findFar (by omega) (by omega) hRB (by omega) e2 (fun hf B2 hF2 hR2 hs => ⟨_, rfl, hF2.ext, fun _ => ?_, fun q => absurd rfl q⟩) (fun e hf B2 hF2 hR2 hs g0 g1 => ⟨_, rfl, hF2.ext, fun q => absurd q (by decide), fun _ => ?_⟩)
        · rw [nI_add]
          have := ih (n + 1) B2 (by omega) (hF.trans hF2) hR2
          unfold wrR at this
          rw [hf] at this
          refine this (fun b hb => ?_)
          obtain ⟨w1, w2, w3, w4⟩ := hw b hb
          exact ⟨by omega, w2, (hs 1 (by decide)).1.trans w3, (hs 1 (by decide)).2.trans w4⟩
        · have hle := frL_le hO hf
          have hn1 := fun B3 hF3 => ih (n + 1) B3 (by omega) hF3
          have cp : (∀ b, wrR (sLs s) (sPs s k) n = some b → b.2.1 * e.2 < e.1 * b.2.2) → WA X dd 0 0 m_X11_worst 52 [some (vR 75), some (vI (nI k)), none, some (vI (nI n))] [] B2 Q := fun hcond => by
            refine b_X11_worst_52 hR2.1 (fun M1 e1 M2 ee2 => ?_)
            rw [show ix (nI 0) = 0 from rfl, show ix (nI 1) = 1 from rfl] at e1 ee2
            have hFa : Fr swS B2 M1 := by rw [e1]; exact Fr.sI (Or.inr (Or.inl rfl))
            have hFb : Fr swS M1 M2 := by rw [ee2]; exact Fr.sI (Or.inr (Or.inr rfl))
            have hwn : wrR (sLs s) (sPs s k) (n + 1) = some (n, e.1, e.2) := by
              unfold wrR
              rw [hf]
              dsimp only
              cases hwc : wrR (sLs s) (sPs s k) n with
              | none => rfl
              | some b => dsimp only; rw [if_pos (hcond b hwc)]
            have := hn1 M2 ((hF.trans hF2).trans (hFa.trans hFb)) ((hR2.sw hFa).sw hFb)
            rw [hwn] at this
            rw [nI_add]
            refine this (fun b hb => ?_)
            cases hb
            refine ⟨by show n < n + 1; omega, hle, ?_, ?_⟩
            · rw [ee2, mI_sI_a (by decide), e1, mI_sI_eq]; exact g0
            · rw [ee2, mI_sI_eq, e1, mI_sI_a (by decide)]; exact g1
          cases hwc : wrR (sLs s) (sPs s k) n with
          | none =>
            refine ⟨fun _ => cp (fun b hb => (by rw [hwc] at hb; cases hb)), fun q => absurd rfl q⟩
          | some b =>
            obtain ⟨w1, w2, w3, w4⟩ := hw b hwc
            refine ⟨fun q => absurd q (na_m1 (a := b.1) (by omega)), fun _ => ?_⟩
            refine sp_isFarther hR2 g0 g1 ((hs 1 (by decide)).1.trans w3) ((hs 1 (by decide)).2.trans w4) hle w2 ⟨_, rfl, Ext.refl _, fun q => ?_, fun q => ?_⟩
            · have q := of_decide_eq_false (bI_0.mp q)
              have hwn : wrR (sLs s) (sPs s k) (n + 1) = some b := by
                unfold wrR
                rw [hf]
                dsimp only
                rw [hwc]
                dsimp only
                rw [if_neg q]
              have := hn1 B2 (hF.trans hF2) hR2
              rw [hwn] at this
              rw [nI_add]
              refine this (fun b2 hb => ?_)
              cases hb
              exact ⟨by omega, w2, (hs 1 (by decide)).1.trans w3, (hs 1 (by decide)).2.trans w4⟩
            · have q := of_decide_eq_true (bI_n0.mp q)
              exact cp (fun b2 hb => (by rw [hwc] at hb; cases hb; exact q))
    exact key (sNl s) 0 M (by omega) Fr.refl hR (fun b hb => (by cases hb))
  · have := bI_0.mp q
    cases hb : inN p (sNp s) with
    | none => rw [hb] at h; exact h M Fr.refl hR
    | some k => rw [hb] at this; cases this
theorem rf_worse {dd : Nat} {p p' : Int32} {M : Mem} (hd : 60 ≤ dd) (hR : RI M s) (h : ∀ B, Fr rfS M B → RI B s → Q (some (vI (aWorse s p p'))) B) : Cl X dd 0 0 m_X11_worse [vR 75, vI p, vI p'] M Q := by
  have h6 := hR.2.1.2.1.1
  have h8 := hR.2.1.2.2.1.1
  have hn16 := hR.2.2.2.2.1.1
  unfold aWorse at h
  refine e_X11_worse (b_X11_worse_0 hR.1 (by omega) (sp_inN (n := sNp s) (by omega) (by rw [hn16]) ⟨_, rfl, Ext.refl _, fun q => ?_, fun q => ?_⟩))
  · have := bI_0.mp q
    cases hb : inN p (sNp s) with
    | none => rw [hb] at h; exact h M Fr.refl hR
    | some k => rw [hb] at this; cases this
  have := bI_n0.mp q
  cases hb : inN p (sNp s) with
  | none => rw [hb] at this; cases this
  | some k =>
  rw [hb] at h
  dsimp only at h
  obtain ⟨e1, e2⟩ := inN_some (by omega) hb
  subst e1
  refine sp_inN (n := sNp s) (by omega) (by rw [hn16]) ⟨_, rfl, Ext.refl _, fun q => ?_, fun q => ?_⟩
  · have := bI_n0.mp q
    cases hb2 : inN p' (sNp s) with
    | none => rw [hb2] at this; cases this
    | some k' =>
    rw [hb2] at h
    dsimp only at h
    obtain ⟨e3, e4⟩ := inN_some (by omega) hb2
    subst e3
    have key : ∀ r n (B : Mem), n + r = sNl s → Fr swS M B → RI B s →
        WA X dd 0 0 m_X11_worse 35 [some (vR 75), some (vI (nI k)), some (vI (nI k')), some (vI (nI (mkS n (fun l => wsB (sLs s l) (sPs s k) (sPs s k'))))), some (vI (nI n))] [] B Q := by
      intro r
      induction r with
      | zero =>
        intro n B hn hF hRB
        obtain rfl : n = sNl s := by omega
        refine b_X11_worse_35 hRB.1 (by omega) ⟨fun _ => h B (sw_rf hF) hRB, fun q => absurd ?_ q⟩
        rw [hRB.lds.1, na_le (by omega) (by omega)]; exact Nat.le_refl _
      | succ r ih =>
        intro n B hn hF hRB
        have hO := hRB.2.1.2.1.2 n (by omega)
        have no : wsB (sLs s n) (sPs s k) (sPs s k') = false → ∀ B2, Fr swS B B2 → RI B2 s → WA X dd 0 0 m_X11_worse 83 [some (vR 75), some (vI (nI k)), some (vI (nI k')), none, some (vI (nI n))] [vI (nI (mkS n (fun l => wsB (sLs s l) (sPs s k) (sPs s k'))))] B2 Q := fun hf B2 hF2 hR2 => by
          refine b_X11_worse_83 hR2.1 (fun x1 ex => ?_)
          rw [or0] at ex
          rw [ex, nI_add]
          have := ih (n + 1) B2 (by omega) (hF.trans hF2) hR2
          simp only [mkS, hf, Bool.false_eq_true, if_false] at this
          exact this
        refine b_X11_worse_35 hRB.1 (by omega) ⟨fun q => ?_, fun _ => ?_⟩
        · rw [hRB.lds.1, na_le (by omega) (by omega)] at q; omega
        refine sp_findFar (by omega) (by omega) hRB (by omega) e2 (fun hf B2 hF2 hR2 hs => ⟨_, rfl, hF2.ext, fun _ => no (by unfold wsB; rw [hf]) B2 hF2 hR2, fun q => absurd rfl q⟩) (fun e hf B2 hF2 hR2 hs g0 g1 => ⟨_, rfl, hF2.ext, fun q => absurd q (by decide), fun _ => ?_⟩)
        refine sp_findFar (by omega) (by omega) hR2 (by omega) e4 (fun hf3 B3 hF3 hR3 hs3 => ⟨_, rfl, hF3.ext, fun _ => no (by unfold wsB; rw [hf]; dsimp only; rw [hf3]) B3 (hF2.trans hF3) hR3, fun q => absurd rfl q⟩) (fun e3 hf3 B3 hF3 hR3 hs3 g2 g3 => ⟨_, rfl, hF3.ext, fun q => absurd q (by decide), fun _ => ?_⟩)
        have hws : wsB (sLs s n) (sPs s k) (sPs s k') = decide (e3.1 * e.2 < e.1 * e3.2) := by
          unfold wsB; rw [hf]; dsimp only; rw [hf3]
        refine sp_isFarther hR3 ((hs3 0 (by decide)).1.trans g0) ((hs3 0 (by decide)).2.trans g1) g2 g3 (frL_le hO hf) (frL_le hO hf3) ⟨_, rfl, Ext.refl _, fun q => ?_, fun q => ?_⟩
        · exact no (by rw [hws]; exact bI_0.mp q) B3 (hF2.trans hF3) hR3
        · intro x4 e4x
          rw [na_1shl (by omega), na_or] at e4x
          rw [e4x, nI_add]
          have := ih (n + 1) B3 (by omega) (hF.trans (hF2.trans hF3)) hR3
          simp only [mkS, hws, bI_n0.mp q, if_true] at this
          exact this
    exact key (sNl s) 0 M (by omega) Fr.refl hR
  · have := bI_0.mp q
    cases hb2 : inN p' (sNp s) with
    | none => rw [hb2] at h; exact h M Fr.refl hR
    | some k' => rw [hb2] at this; cases this
end WORST
