/-! THE CLASS: the mind -/
/-- its cutters -/
def mcX (M : Mem) : Prop := ∀ k, k < 4 → mR M 39 k = 43 + 6 * k ∧ CuS M (43 + 6 * k) ∧ mI M (43 + 6 * k + 4) 0 = nI 0
/-- what it remembers -/
def mmX (M : Mem) (L : LandT) (P : ProT) (g : Nat) (ot : Bool) : Prop := ∀ k, k < 2048 → mI M 40 k = (-1000) ∨ ∃ m o, k = 512 * m + o ∧ o < 512 ∧ mI M 40 k = zI (sgI g (cmF L P g ot (m + 1) o)) ∧ mI M 41 k = chI (rbF L P g ot (m + 1) o)
def miX (M : Mem) (la pr : Nat) (L : LandT) (P : ProT) (g : Nat) (ot : Bool) : Prop := MiS M 38 ∧ (mR M 38 5 = la ∧ mR M 38 6 = pr) ∧ (mI M 38 7 = bI ot ∧ mI M 38 8 = nI g ∧ g < 3) ∧ mcX M ∧ mmX M L P g ot
/-- what the mind at level m may touch: cutters below m -/
def mnS (m b k : Nat) : Prop := (b = 38 ∧ k = 9) ∨ b = 40 ∨ b = 41 ∨ b = 35 ∨ b = 37 ∨ (43 ≤ b ∧ b < 43 + 6 * m ∧ ¬ ((b = 47 ∨ b = 53 ∨ b = 59 ∨ b = 65) ∧ k = 0))
def mnT (m b k : Nat) : Prop := (b = 35 ∧ k ≤ 1) ∨ (∃ j, j < m ∧ j < 4 ∧ b = 43 + 6 * j ∧ k = 4)
/-- the mind set to work in the memory M -/
def MX (M : Mem) (la pr : Nat) (L : LandT) (P : ProT) (g : Nat) (ot : Bool) : Prop := miX M la pr L P g ot ∧ laR M la L ∧ prX M pr P ∧ scX M ∧ ProOK P ∧ 66 < la ∧ 66 < pr
section MIND
variable {X : Cx} {la pr g : Nat} {ot : Bool} {L : LandT} {P : ProT} {M : Mem} {Q : Option AV → Mem → Prop}
theorem mnT_ok {m : Nat} (h : MX M la pr L P g ot) : ∀ b k ci n, mnT m b k → isK M b ci n → finR ci k = false := fun b k ci n q hk => by
  rcases q with ⟨rfl, q2⟩ | ⟨j, j1, j2, rfl, rfl⟩
  · obtain ⟨e1, -⟩ := isK_fun h.2.2.2.1.2.2.o hk
    subst e1
    rcases (show k = 0 ∨ k = 1 by omega) with rfl | rfl <;> rfl
  · obtain ⟨e1, -⟩ := isK_fun (h.1.2.2.2.1 j j2).2.1.o hk
    subst e1; rfl
theorem mn_ext {m : Nat} {B : Mem} (h : MX M la pr L P g ot) (hF : Frr (mnS m) (mnT m) M B) : Ext M B := hF.ext (mnT_ok h)
theorem mnS_mono {m n b k : Nat} (h : m ≤ n) (q : mnS m b k) : mnS n b k := by unfold mnS at q ⊢; omega
theorem mnT_mono {m n b k : Nat} (h : m ≤ n) (q : mnT m b k) : mnT n b k := by
  rcases q with q | ⟨j, j1, j2⟩
  · exact Or.inl q
  · exact Or.inr ⟨j, by omega, j2⟩
theorem mn_mono {m n : Nat} {B : Mem} (h : m ≤ n) (hF : Frr (mnS m) (mnT m) M B) : Frr (mnS n) (mnT n) M B := hF.mono (fun _ _ => mnS_mono h) (fun _ _ => mnT_mono h)
theorem mnT_no {m b k : Nat} (h : b ≠ 35) (h2 : b < 43 ∨ 61 < b ∨ k ≠ 4) : ¬ mnT m b k := fun q => by
  rcases q with q | ⟨j, j1, j2, j3, j4⟩ <;> omega
/-- it stays at work where memory alone has changed in what it may touch -/
theorem MX.mn {m : Nat} {B : Mem} (h : MX M la pr L P g ot) (hm : m ≤ 4) (hF : Frr (mnS m) (mnT m) M B) (hmm : mmX B L P g ot) : MX B la pr L P g ot := by
  obtain ⟨⟨h1, ⟨h2, h3⟩, ⟨h4, h5, h6⟩, h7, h8⟩, h9, h10, h11, h12, h13, h14⟩ := h
  have h : MX M la pr L P g ot := ⟨⟨h1, ⟨h2, h3⟩, ⟨h4, h5, h6⟩, h7, h8⟩, h9, h10, h11, h12, h13, h14⟩
  have hT := mnT_ok (m := m) h
  have hE := hF.ext hT
  refine ⟨⟨h1.ext hE, ⟨(hF.r (mnT_no (by decide) (by omega))).trans h2, (hF.r (mnT_no (by decide) (by omega))).trans h3⟩, ⟨(hF.i (by unfold mnS; omega)).trans h4, (hF.i (by unfold mnS; omega)).trans h5, h6⟩, fun k hk => ?_, hmm⟩, h9.rr hF hT (fun b k q1 q2 w => by unfold mnS at w; omega), h10.rr hF hT (fun b k q1 q2 w => by unfold mnS at w; omega), ?_, h12, h13, h14⟩
  · obtain ⟨k1, k2, k3⟩ := h7 k hk
    exact ⟨(hF.r (mnT_no (by decide) (by omega))).trans k1, k2.ext hE, (hF.i (by unfold mnS; omega)).trans k3⟩
  · exact h11.rr hF hT (fun w => by unfold mnS at w; omega)
theorem mmX.eq {B : Mem} (h : mmX M L P g ot) (h1 : ∀ k, mI B 40 k = mI M 40 k) (h2 : ∀ k, mI B 41 k = mI M 41 k) : mmX B L P g ot := fun k hk => by
  rw [h1, h2]; exact h k hk
/-- the mind's own scratch, less what it remembers -/
def msS (m b k : Nat) : Prop := (b = 38 ∧ k = 9) ∨ b = 35 ∨ b = 37 ∨ (43 ≤ b ∧ b < 43 + 6 * m ∧ ¬ ((b = 47 ∨ b = 53 ∨ b = 59 ∨ b = 65) ∧ k = 0))
theorem ms_mn {m : Nat} {B : Mem} {T : Nat → Nat → Prop} (hF : Frr (msS m) T M B) : Frr (mnS m) T M B := hF.mono (fun b k q => by unfold msS at q; unfold mnS; omega) (fun _ _ q => q)
theorem MX.ms {m : Nat} {B : Mem} (h : MX M la pr L P g ot) (hm : m ≤ 4) (hF : Frr (msS m) (mnT m) M B) : MX B la pr L P g ot :=
  h.mn hm (ms_mn hF) (h.1.2.2.2.2.eq (fun k => hF.i (by unfold msS; omega)) (fun k => hF.i (by unfold msS; omega)))
theorem kp_drawer {m d : Nat} (h : MX M la pr L P g ot) (hm : 1 ≤ m ∧ m ≤ L.2.1) (hq : Q (some (vI (nI (drF P ot ((L.2.1 - m) % P.1))))) M) : Cl X d 0 0 m_X5_drawer [vR 38, vI (nI m)] M Q := by
  obtain ⟨⟨h1, ⟨h2, h3⟩, ⟨h4, h5, h6⟩, h7, h8⟩, h9, h10, h11, h12, h13, h14⟩ := h
  have hs4 := h9.2.2.2.1
  obtain ⟨p1, p2⟩ := h10.2 (L.2.1 - m) (by omega)
  refine e_X5_drawer (b_X5_drawer_0 h1 ?_)
  rw [h2, h9.1.2.2.1.2.1, h3]
  refine ⟨h9.1.1, fun x1 e1 => ?_⟩
  rw [na_sub hm.2] at e1
  rw [e1]
  refine ⟨fun q => absurd (by rw [na_lt (by omega) (by decide)] at q; omega) (id : False → False), fun _ => ⟨fun q => absurd (by rw [na_le (by decide) (by omega)] at q; omega) (id : False → False), fun _ => ⟨h10.1, na_in (by omega) (by decide), ?_⟩⟩⟩
  rw [na_ix (by omega), p2, h4, xor_b (h12.2.2 _).1]
  exact hq
theorem kp_worstFor {pl d : Nat} (hp : pl ≤ 1) (hq : Q (some (vI (zI (if pl = 0 then -100 else 100)))) M) : Cl X d 0 0 m_X5_worstFor [vI (nI pl)] M Q := by
  refine e_X5_worstFor (b_X5_worstFor_0 ?_)
  rw [na_eq (by omega) (by decide)]
  refine ⟨fun q => ?_, fun q => ?_⟩
  · rw [if_neg q] at hq; exact hq
  · rw [if_pos q] at hq; exact hq
/-- the mind's cutter of the level m -/
theorem cu_ms {m : Nat} {B C : Mem} {T : Nat → Nat → Prop} (hm : 1 ≤ m ∧ m ≤ 4) (hF : Fr (cuS (43 + 6 * (m - 1))) B C) : Frr (msS m) T B C := (hF.mono (fun b k q => by unfold cuS at q; unfold msS; omega)).rr
theorem cb_ms {m : Nat} {B C : Mem} (hm : 1 ≤ m ∧ m ≤ 4) (hF : Frr (cbS (43 + 6 * (m - 1))) (cbT (43 + 6 * (m - 1))) B C) : Frr (msS m) (mnT m) B C := hF.mono (fun b k q => by unfold cbS at q; unfold msS; omega) (fun b k q => Or.inr ⟨m - 1, by omega, by omega, q.1, q.2⟩)
theorem ji_ms {m : Nat} {B C : Mem} (hF : Frr (jiS 35) (jiT 35) B C) : Frr (msS m) (mnT m) B C := hF.mono (fun b k q => by unfold jiS at q; unfold msS; omega) (fun b k q => Or.inl q)
theorem ch_ms {m : Nat} {B : Mem} {v : Int32} {T : Nat → Nat → Prop} : Frr (msS m) T B (sI B 38 9 v) := (Fr.sI (S := msS m) (Or.inl ⟨rfl, rfl⟩)).rr
theorem cu_low {m n : Nat} {h2 : Nat} {B C : Mem} {base : Nat → Bool} {b nn o mm N : Nat} {xs : List Nat} (hX : MX B la pr L P g ot) (hm : m < n ∧ n ≤ 4) (hh : 66 < h2) (hW : cuW B (43 + 6 * (n - 1)) h2 base b nn o mm N xs) (hF : Frr (mnS m) (mnT m) B C) : cuW C (43 + 6 * (n - 1)) h2 base b nn o mm N xs :=
  hW.rr hF (mnT_ok hX) (fun q => by rcases q with q | ⟨j, j1, j2, j3, j4⟩ <;> omega) (fun c k hc w => by unfold mnS at w; omega)
theorem kp_cutsOf {m o d : Nat} (h : MX M la pr L P g ot) (hd : 2 ≤ d) (hm : 1 ≤ m ∧ m ≤ L.2.1) (ho : o < 2 ^ L.1) (hq : ∀ B N, Frr (msS m) (mnT m) M B → cuW B (43 + 6 * (m - 1)) (la + 8) (lwB L) 2 L.1 o m N (lsL L o m) → Q (some (vR (43 + 6 * (m - 1)))) B) : Cl X d 0 0 m_X5_cutsOf [vR 38, vI (nI o), vI (nI m)] M Q := by
  have hX := h
  obtain ⟨⟨h1, ⟨h2, h3⟩, ⟨h4, h5, h6⟩, h7, h8⟩, h9, h10, h11, h12, h13, h14⟩ := h
  have hs4 := h9.2.2.2.1
  obtain ⟨c1, c2, c3⟩ := h7 (m - 1) (by omega)
  refine e_X5_cutsOf (b_X5_cutsOf_0 h1 (by omega) ?_)
  rw [na_sub (a := m) (b := 1) hm.1, na_ix (by omega), show (38 : Nat) + 1 = 39 from rfl, c1, h2, h9.1.2.2.1.1]
  refine ⟨na_in (by omega) (by decide), h9.1.1, c2, kp_cbegin (base := lwB L) (by omega) c2 h9.2.2.1.2 ho (by omega) (by omega) (la_k8 h9) (fun s hs => (h9.2.1 s hs).2.2) c3 (fun B N hFB hW => ⟨rfl, (cb_ms ⟨hm.1, by omega⟩ hFB).ext (mnT_ok hX), ?_⟩)⟩
  have hW2 := hW 2 (by decide) (by decide) (by omega)
  rw [vl_law (by omega)] at hW2
  exact hq B N (cb_ms ⟨hm.1, by omega⟩ hFB) hW2
end MIND
