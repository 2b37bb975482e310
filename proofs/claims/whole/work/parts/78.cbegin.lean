/-! HOW THE CLASS FINDS CUTS: the beginning -/
/-- ints outside S and references outside T have not changed -/
def Frr (S T : Nat → Nat → Prop) (M B : Mem) : Prop := (∀ a i, ¬ S a i → mI B a i = mI M a i) ∧ (∀ a i, ¬ T a i → mR B a i = mR M a i) ∧ B.2.2 = M.2.2
theorem Frr.refl {S T : Nat → Nat → Prop} {M : Mem} : Frr S T M M := ⟨fun _ _ _ => rfl, fun _ _ _ => rfl, rfl⟩
theorem Frr.trans {S T : Nat → Nat → Prop} {M B C : Mem} (h1 : Frr S T M B) (h2 : Frr S T B C) : Frr S T M C := ⟨fun a i h => (h2.1 a i h).trans (h1.1 a i h), fun a i h => (h2.2.1 a i h).trans (h1.2.1 a i h), h2.2.2.trans h1.2.2⟩
theorem Frr.mono {S T S' T' : Nat → Nat → Prop} {M B : Mem} (h : Frr S T M B) (hS : ∀ a i, S a i → S' a i) (hT : ∀ a i, T a i → T' a i) : Frr S' T' M B := ⟨fun a i q => h.1 a i (fun z => q (hS a i z)), fun a i q => h.2.1 a i (fun z => q (hT a i z)), h.2.2⟩
theorem Fr.rr {S T : Nat → Nat → Prop} {M B : Mem} (h : Fr S M B) : Frr S T M B := ⟨h.1, fun a i _ => by unfold mR; rw [h.2], by rw [h.2]⟩
theorem Frr.sR {S T : Nat → Nat → Prop} {M : Mem} {a i v : Nat} (h : T a i) : Frr S T M (sR M a i v) := by
  refine ⟨fun _ _ _ => rfl, fun b j hn => ?_, rfl⟩
  show (if b = a ∧ j = i then v else mR M b j) = mR M b j
  rw [if_neg]
  rintro ⟨rfl, rfl⟩
  exact hn h
theorem Frr.k {S T : Nat → Nat → Prop} {M B : Mem} (h : Frr S T M B) {a k n : Nat} (hk : isK M a k n) : isK B a k n := by unfold isK at *; rw [h.2.2]; exact hk
theorem Frr.ext {S T : Nat → Nat → Prop} {M B : Mem} (h : Frr S T M B) (hT : ∀ a k ci n, T a k → isK M a ci n → finR ci k = false) : Ext M B := by
  refine ⟨fun _ _ _ hk => h.k hk, fun a ci k n hk hf => h.2.1 a k (fun z => ?_)⟩
  rw [hT a k ci n z hk] at hf; cases hf
def cbS (a b k : Nat) : Prop := (b = a ∧ 5 ≤ k ∧ k ≤ 8) ∨ b = a + 1 ∨ b = a + 2 ∨ b = a + 3
def cbT (a b k : Nat) : Prop := b = a ∧ k = 4
theorem cb_ext {a : Nat} {S : Nat → Nat → Prop} {M B : Mem} (h : Frr S (cbT a) M B) (hC : CuS M a) : Ext M B := h.ext (fun b k ci n hT hk => by
  obtain ⟨rfl, rfl⟩ := hT
  obtain ⟨rfl, -⟩ := isK_fun hC.1 hk
  rfl)
section BEGIN
variable {X : Cx} {d a h : Nat} {base : Nat → Bool} {n o m : Nat} {M : Mem} {Q : Option AV → Mem → Prop}
theorem kp_cbegin (hd : 1 ≤ d) (hC : CuS M a) (hn : n ≤ 9) (ho : o < 2 ^ n) (hm : 1 ≤ m ∧ m ≤ 8) (hh : h < a ∨ a + 4 < h) (hk : isK M h 14 (2 ^ n)) (ht : ∀ s, s < 2 ^ n → mI M h s = nI (haF base n 0 s)) (hz : mI M (a + 4) 0 = nI 0)
    (hQ : ∀ B N, Frr (cbS a) (cbT a) M B → (∀ b, 1 ≤ b → b ≤ 3 → m ≤ 2 ^ b → cuW B a h base b n o m N ((enB b n o m n 0 0).filter (vlB base b n o m))) → Q none B) : Cl X d 0 0 m_X0_begin [vR a, vR h, vI (nI n), vI (nI o), vI (nI m)] M Q := by
  have h512 := p9 hn
  refine e_X0_begin (b_X0_begin_0 hC hd (fun M1 e1 M2 e2 M3 e3 M4 e4 => ?_))
  have hF4 : Frr (cbS a) (cbT a) M M4 := by
    rw [e4, e3, e2, e1]
    exact (((Frr.sR ⟨rfl, rfl⟩).trans (Fr.sI (Or.inl ⟨rfl, by decide, by decide⟩)).rr).trans (Fr.sI (Or.inl ⟨rfl, by decide, by decide⟩)).rr).trans (Fr.sI (Or.inl ⟨rfl, by decide, by decide⟩)).rr
  have r4 : mR M4 a 4 = h := by
    rw [e4, e3, e2, e1]
    show (if a = a ∧ 4 = 4 then h else mR M a 4) = h
    rw [if_pos ⟨rfl, rfl⟩]
  have f5 : mI M4 a 5 = nI n := by rw [e4, mI_sI_i (by decide), e3, mI_sI_i (by decide), e2, mI_sI_eq]
  have f7 : mI M4 a 7 = nI m := by rw [e4, mI_sI_i (by decide), e3, mI_sI_eq, minI_n (by omega) (by decide), Nat.min_eq_left hm.2]
  have f6 : mI M4 a 6 = nI 0 := by rw [e4, mI_sI_eq]
  have hC4 := hC.ext (cb_ext hF4 hC)
  have key : ∀ r p j (B : Mem), p + r = n → j ≤ p → Fr (fun b k => (b = a ∧ k = 6) ∨ b = a + 2) M4 B → mI B a 6 = nI j → (∀ k, k < j → mI B (a + 2) k = nI (plF n o k) ∧ plF n o k < n) → plF n o j = nxP n o p → WA X d 0 0 m_X0_begin 29 [some (vR a), none, some (vI (nI n)), some (vI (nI o)), none, some (vI (nI p))] [] B Q := by
    intro r
    induction r with
    | zero =>
      intro p j B hp hj hF g6 gl gj
      obtain rfl : p = n := by omega
      rw [nxP_n] at gj
      have hCB := hC4.ext hF.ext
      refine b_X0_begin_29 hCB ⟨fun _ => b_X0_begin_80 hCB hd ⟨by rw [g6]; exact na_in (by omega) (by omega), fun N1 x1 => ?_⟩, fun q => absurd (by rw [na_le (by omega) (by omega)]; exact Nat.le_refl _) q⟩
      rw [g6, na_ix (by omega)] at x1
      have hFN1 : Fr (fun b k => (b = a ∧ k = 6) ∨ b = a + 2) M4 N1 := by rw [x1]; exact hF.trans (Fr.sI (Or.inr rfl))
      have hCN1 := hC4.ext hFN1.ext
      refine kp_fill hCN1.2.1.2 (by decide) (fun N2 hFN2 hN2 => ⟨rfl, hFN2.ext, fun N3 x3 N4 x4 => ?_⟩)
      rw [show ix (nI 0) = 0 from rfl] at x3
      have o3 : ∀ b k, b ≠ a + 3 → mI N3 b k = mI N2 b k := fun b k hb => by rw [x3, mI_sI_a hb]
      have o4 : ∀ b k, ¬ (b = a ∧ k = 8) → mI N4 b k = mI N3 b k := fun b k hb => by rw [x4, mI_sI, if_neg hb]
      have hFE : Frr (cbS a) (cbT a) M N4 := by
        refine hF4.trans (Fr.rr ?_)
        rw [x4, x3]
        exact (((hFN1.mono (fun b k q => by unfold cbS; omega)).trans (hFN2.mono (fun b k q => by unfold cbS; omega))).trans (Fr.sI (by unfold cbS; omega))).trans (Fr.sI (by unfold cbS; omega))
      have hCE := hC.ext (cb_ext hFE hC)
      have y : ∀ b k, b ≠ a + 1 → b ≠ a + 3 → ¬ (b = a ∧ k = 8) → mI N4 b k = mI N1 b k := fun b k z1 z2 z3 => by
        rw [o4 b k z3, o3 b k z2, hFN2.at (fun z => z1 z.1)]
      have hK : cuK a h p o m j := ⟨hn, hm, by omega, ⟨fun k hk => (gl k hk).2, gj⟩, ho, hh⟩
      have hBB : cuB N4 a h base p o m j := by
        refine ⟨hCE, ⟨?_, hFE.k hk, fun s hs => ?_⟩, ⟨?_, ?_, ?_⟩, fun k hk2 => ?_, ?_⟩
        · have e : mR N4 a 4 = mR M4 a 4 := by
            have z : N4.2 = M4.2 := by
              rw [x4, x3]
              show N2.2 = M4.2
              rw [hFN2.2, hFN1.2]
            unfold mR; rw [z]
          rw [e]; exact r4
        · rw [hFE.1 _ _ (by unfold cbS; omega)]; exact ht s hs
        · rw [y _ _ (by omega) (by omega) (by omega), hFN1.at (by omega)]; exact f5
        · rw [y _ _ (by omega) (by omega) (by omega), x1, mI_sI_a (by omega)]; exact g6
        · rw [y _ _ (by omega) (by omega) (by omega), hFN1.at (by omega)]; exact f7
        · rw [y _ _ (by omega) (by omega) (by omega), x1, mI_sI]
          by_cases hq : k = j
          · subst hq; rw [if_pos ⟨rfl, rfl⟩, gj]
          · rw [if_neg (fun z => hq z.2)]; exact (gl k (by omega)).1
        · rw [hFE.1 _ _ (by unfold cbS; omega)]; exact hz
      have hcl : ∀ dp : Nat → Nat, uP o dp (plF p o 0) = 0 ∧ ∀ s, pts o dp (plF p o 0) s = 0 := fun dp => by
        have := enS_nx (b := 2) (m := m) (dp := dp) (o := o) (q := 0) (n := p) (Nat.zero_le _)
        exact ⟨this.2.1, fun s => this.2.2 s⟩
      have hT : cuT N4 a p o 0 0 (fun _ => 0) := by
        refine ⟨by rw [x4, mI_sI_eq], fun k hk => by omega, ?_, fun k hk => ?_, fun s hs => ?_⟩
        · rw [o4 _ _ (by omega), x3, mI_sI_eq]; rfl
        · obtain rfl : k = 0 := by omega
          rw [(hcl _).1]; exact hBB.2.2.2.2
        · rw [if_pos rfl, (hcl _).2 s, o4 _ _ (by omega), o3 _ _ (by omega)]; exact hN2 s hs
      refine hQ N4 j hFE (fun b hb1 hb3 hbm => ⟨hK, hBB, ⟨hb1, hb3, hbm⟩, fun _ => 0, fun _ => by show 0 < m; omega, ?_⟩)
      have hS := (enS_nx (b := b) (m := m) (dp := fun _ => 0) (o := o) (q := 0) (n := p) (Nat.zero_le _)).1
      have hS0 : enS b p o m (fun _ => 0) 0 = enB b p o m p 0 0 := rfl
      rw [hS0] at hS
      rcases Nat.eq_zero_or_pos j with hj0 | hj0
      · subst hj0
        right
        refine ⟨hT, ?_, Nat.zero_le _⟩
        rw [hS, show nxP p o 0 = plF p o 0 from rfl, gj]
        have : enS b p o m (fun _ => 0) p = [] := by
          unfold enS
          rw [Nat.sub_self]
          unfold enB
          rw [if_neg]
          have := (hcl (fun _ => 0)).1
          rw [gj] at this
          rw [this]; omega
        rw [this]; rfl
      · left
        refine ⟨hj0, hT, ?_⟩
        rw [hS, show nxP p o 0 = plF p o 0 from rfl]
        exact enS_open (gl 0 hj0).2 (plF_op (gl 0 hj0).2)
    | succ r ih =>
      intro p j B hp hj hF g6 gl gj
      have hCB := hC4.ext hF.ext
      refine b_X0_begin_29 hCB ⟨fun q => absurd (by rw [na_le (by omega) (by omega)] at q; omega) (id : False → False), fun _ => ⟨fun q => absurd q (by rw [g6]; exact gd_hi (by omega) (by decide)), fun _ => ?_⟩⟩
      rw [bit0 (by omega) (by omega), g6]
      refine ⟨fun q => ?_, fun q => ⟨na_in (by omega) (by omega), fun N1 x1 N2 x2 => ?_⟩⟩
      · rw [nI_add]
        exact ih (p + 1) j B (by omega) (by omega) hF g6 gl (gj.trans (nxP_cl (by omega) q))
      · have q : o.testBit p = true := by simpa using q
        have gp := gj.trans (nxP_op (by omega) q)
        rw [na_ix (by omega)] at x1
        have hF1 : Fr (fun b k => (b = a ∧ k = 6) ∨ b = a + 2) B N1 := by rw [x1]; exact Fr.sI (Or.inr rfl)
        have n6 : mI N1 a 6 = nI j := by rw [x1, mI_sI_a (by omega)]; exact g6
        rw [n6, nI_add] at x2
        rw [nI_add]
        refine ih (p + 1) (j + 1) N2 (by omega) (by omega) (by rw [x2]; exact (hF.trans hF1).trans (Fr.sI (Or.inl ⟨rfl, rfl⟩))) (by rw [x2, mI_sI_eq]) (fun k hk2 => ?_) (by show nxP n o (plF n o j + 1) = _; rw [gp])
        rw [x2, mI_sI_a (by omega), x1, mI_sI]
        by_cases hq : k = j
        · subst hq; rw [if_pos ⟨rfl, rfl⟩, gp]; exact ⟨rfl, by omega⟩
        · rw [if_neg (fun z => hq z.2)]; exact gl k (by omega)
  exact key n 0 0 M4 (by omega) (Nat.le_refl _) Fr.refl f6 (fun k hk2 => by omega) rfl
/-- the lawful cuts are what a cutter gives -/
theorem vl_law {L : LandT} {o m : Nat} (hm : m ≤ 4) : (enB 2 L.1 o m L.1 0 0).filter (vlB (lwB L) 2 L.1 o m) = lsL L o m := by
  unfold lsL
  refine List.filter_congr (fun x hx => ?_)
  obtain ⟨h1, h2⟩ := enB_ok (b := 2) hm L.1 0 0 0 x (by omega) (by omega) (by simp) rfl hx
  unfold vlB lawB
  refine decide_eq_decide.mpr ⟨fun q s hs => ?_, fun q s hs => ?_⟩
  · have := q s hs
    rw [lwB_fa (by have := nuF_pos h2 hs; omega)] at this
    exact of_decide_eq_true this
  · rw [lwB_fa (by have := nuF_pos h2 hs; omega)]
    exact decide_eq_true (q s hs)
end BEGIN
