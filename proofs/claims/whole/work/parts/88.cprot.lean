/-! THE CLASS: a protocol is made -/
section PROT
variable {X : Cx} {d kc ns a : Nat} {R : ProT} {M : Mem} {Q : Option AV → Mem → Prop}
theorem kp_protocol (hd : 1 ≤ d) (hkc : 2 ≤ kc) (hns : 8 ≤ ns) (ha : isK M a 6 2) (hx : nx M = a + 1) (ha10 : 10 < a) (hS : PtS M 8) (hP : kP M R) (hR1 : 1 ≤ R.1 ∧ R.1 ≤ 6)
    (h : ∀ B, Fal (fun _ _ => False) (fun b _ => b = a) M B → nx B = a + 3 → PrS B a → (∀ k, k < 4 → mI B (a + 1) k = nI (kdP (R.2.2 (k % R.1))) ∧ mI B (a + 2) k = nI (R.2.1 (k % R.1))) → Q none B) : Cl X d kc ns m_X6_init [vR a, vR 8] M Q := by
  refine e_X6_init (b_X6_init_0 ha hd ⟨na_in (by decide) (by decide), by omega, by rw [na_ix (by decide)]; omega, fun M1 e1 M2 e2 => ⟨na_in (by decide) (by decide), by omega, by rw [na_ix (by decide)]; omega, fun M3 e3 M4 e4 => ?_⟩⟩)
  rw [na_ix (by decide)] at e1 e3
  rw [hx] at e2
  have x1 : nx M1 = a + 2 := by rw [e1, nx_nw, hx]
  have x2 : nx M2 = a + 2 := by rw [e2]; exact x1
  rw [x2] at e4
  have x3 : nx M3 = a + 3 := by rw [e3, nx_nw, x2]
  have x4 : nx M4 = a + 3 := by rw [e4]; exact x3
  have hF : Fal (fun _ _ => False) (fun b _ => b = a) M M4 := by
    rw [e4, e3, e2, e1]
    exact ((Fal.nw.trans (Frr.sR (T := fun b _ => b = a) rfl).al).trans Fal.nw).trans (Frr.sR (T := fun b _ => b = a) rfl).al
  have k1 : isK M4 (a + 1) 14 4 := by
    rw [e4, e3]
    refine isK_nw_old ?_
    rw [e2, e1]
    have := isK_nw (M := M) (k := 14) (n0 := 4)
    rw [hx] at this; exact this
  have k2 : isK M4 (a + 2) 14 4 := by
    rw [e4, e3]
    have := isK_nw (M := M2) (k := 14) (n0 := 4)
    rw [x2] at this; exact this
  have r0 : mR M4 a 0 = a + 1 := by
    rw [e4, mR_sR, if_neg (by omega), e3]
    show (if a = nx M2 then 0 else mR M2 a 0) = _
    rw [if_neg (by omega), e2, mR_sR, if_pos ⟨rfl, rfl⟩]
  have r1 : mR M4 a 1 = a + 2 := by rw [e4, mR_sR, if_pos ⟨rfl, rfl⟩]
  have hPS : PrS M4 a := ⟨hF.2.2.2.2 _ _ _ ha, ⟨r0, k1⟩, ⟨r1, k2⟩⟩
  have l8 : 8 < nx M := by omega
  have n8 : ∀ k, ¬ (fun b (_ : Nat) => b = a) 8 k := fun k q => by
    have q : 8 = a := q
    omega
  have hPt : PtS M4 8 := ⟨hF.2.2.2.2 _ _ _ hS.1, ⟨(hF.2.2.1 8 1 l8 (n8 1)).trans hS.2.1.1, hF.2.2.2.2 _ _ _ hS.2.1.2⟩, ⟨(hF.2.2.1 8 2 l8 (n8 2)).trans hS.2.2.1, hF.2.2.2.2 _ _ _ hS.2.2.2⟩⟩
  have hP4 : kP M4 R := ⟨(hF.2.1 8 0 l8 id).trans hP.1, fun r hr => ⟨(hF.2.1 9 r (by omega) id).trans (hP.2 r hr).1, (hF.2.1 10 r (by omega) id).trans (hP.2 r hr).2⟩⟩
  have key : ∀ r k (B : Mem), k + r = 4 → Fr (fun b _ => b = a + 1 ∨ b = a + 2) M4 B → (∀ i, i < k → mI B (a + 1) i = nI (kdP (R.2.2 (i % R.1))) ∧ mI B (a + 2) i = nI (R.2.1 (i % R.1))) → WA X d (kc - 1 - 1) (ns - ix (nI 4) - ix (nI 4)) m_X6_init 20 [some (vR a), some (vR 8), some (vI (nI k))] [] B Q := by
    intro r
    induction r with
    | zero =>
      intro k B hk hFB hB
      obtain rfl : k = 4 := by omega
      have hkB := hFB.ext.1 _ _ _ hPS.1
      refine b_X6_init_20 hkB ⟨fun _ => h B ⟨?_, fun b i hb _ => ?_, fun b i hb hn => ?_, fun b i hb => ?_, fun b k n hk2 => hFB.ext.1 _ _ _ (hF.2.2.2.2 _ _ _ hk2)⟩ ?_ (hPS.ext hFB.ext) hB, fun q => absurd (by decide) q⟩
      · have : nx B = nx M4 := by unfold nx; rw [hFB.2]
        rw [this, x4, hx]; omega
      · rw [hFB.at (by omega)]; exact hF.2.1 b i hb id
      · have : mR B b i = mR M4 b i := by unfold mR; rw [hFB.2]
        rw [this]; exact hF.2.2.1 b i hb hn
      · have : mJ B b i = mJ M4 b i := by unfold mJ; rw [hFB.2]
        rw [this]; exact hF.2.2.2.1 b i hb
      · have : nx B = nx M4 := by unfold nx; rw [hFB.2]
        rw [this]; exact x4
    | succ r ih =>
      intro k B hk hFB hB
      have hkB := hFB.ext.1 _ _ _ hPS.1
      have hPSB := hPS.ext hFB.ext
      have hPtB := hPt.ext hFB.ext
      have hPB : kP B R := hP4.fr hFB (fun b k h1 h2 q => by omega)
      have hmod := Nat.mod_lt k (show 0 < R.1 by omega)
      have h80 : mI B 8 0 = nI R.1 := hPB.1
      refine b_X6_init_20 hkB ⟨fun q => absurd (by rw [na_le (by decide) (by omega)] at q; omega) (id : False → False), fun _ => ⟨hPtB.1, fun q => absurd (by rw [h80, na_le (by omega) (by decide)] at q; omega) (id : False → False), fun _ => ?_⟩⟩
      rw [h80, na_rem (by omega) (by omega) (by omega), hPtB.2.1.1, hPSB.2.1.1]
      refine ⟨fun z => by rw [na_eq (by omega) (by decide)] at z; omega, 6, hPtB.2.1.2, na_in (by omega) (by decide), 4, hPSB.2.1.2, na_in (by omega) (by decide), fun N1 y1 => ?_⟩
      rw [na_ix (by omega), na_ix (by omega), show (8 : Nat) + 1 = 9 from rfl, (hPB.2 _ hmod).1] at y1
      have hF1 : Fr (fun b _ => b = a + 1 ∨ b = a + 2) B N1 := by rw [y1]; exact Fr.sI (Or.inl rfl)
      have hPS1 := hPSB.ext hF1.ext
      have hPt1 := hPtB.ext hF1.ext
      have hP1 : kP N1 R := hPB.fr hF1 (fun b k h1 h2 q => by omega)
      rw [hP1.1, na_rem (by omega) (by omega) (by omega), hPt1.2.2.1, hPS1.2.2.1]
      refine ⟨fun z => by rw [na_eq (by omega) (by decide)] at z; omega, 6, hPt1.2.2.2, na_in (by omega) (by decide), 4, hPS1.2.2.2, na_in (by omega) (by decide), fun N2 y2 => ?_⟩
      rw [na_ix (by omega), na_ix (by omega), show (8 : Nat) + 2 = 10 from rfl, (hP1.2 _ hmod).2] at y2
      rw [nI_add]
      refine ih (k + 1) N2 (by omega) (by rw [y2]; exact (hFB.trans hF1).trans (Fr.sI (Or.inr rfl))) (fun i hi => ?_)
      rw [y2, mI_sI_a (show a + 1 ≠ a + 2 by omega), mI_sI, y1, mI_sI, mI_sI_a (show a + 2 ≠ a + 1 by omega)]
      by_cases hq : i = k
      · subst hq; rw [if_pos ⟨rfl, rfl⟩, if_pos ⟨rfl, rfl⟩]; exact ⟨rfl, rfl⟩
      · rw [if_neg (fun z => hq z.2), if_neg (fun z => hq z.2)]; exact hB i (by omega)
  exact key 4 0 M4 (by omega) Fr.refl (fun i hi => by omega)
end PROT
