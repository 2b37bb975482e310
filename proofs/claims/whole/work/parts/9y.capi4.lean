/-! THE CLASS: the tape; rolls -/
section API
variable {X : Cx} {d kc ns : Nat} {M : Mem} {s : StT} {T : AdT} {Q : Option AV → Mem → Prop}
/-- the tape alone has changed -/
theorem CI.tp {B : Mem} {z : Nat} {t : Nat → Nat} (h : CI M s T) (hF : Fr (fun b k => (b = 2 ∧ k = 1) ∨ b = 3) M B) (hk : kT B z t) : CI B ((z, t), s.2) T ∧ OFr M B := by
  obtain ⟨⟨hTp, hSO⟩, -, ⟨⟨c6, c7, c8⟩, cl, cp, cg⟩, hld, hpr, hga, ⟨h18, hmc⟩, hmv, han, hse⟩ := h
  have hE := hF.ext
  have hnx : nx B = nx M := by unfold nx; rw [hF.2]
  have i : ∀ b k, 3 < b ∨ b < 2 → mI B b k = mI M b k := fun b k hb => hF.at (by omega)
  have r : ∀ b k, mR B b k = mR M b k := fun b k => by unfold mR; rw [hF.2]
  have hA : Fal (fun b k => (b = 2 ∧ k = 1) ∨ b = 3) (fun _ _ => False) M B := hF.rr.al
  have lo : ∀ b x, aOw T b = x → x ≠ 0 → 105 ≤ b := fun b x h1 h2 => hse.lo h1 h2
  refine ⟨⟨⟨hTp.ext hE, ⟨⟨hk.2.2.1, fun j hj => (hk.2.2.2 j hj).2⟩, hSO.2⟩⟩, hk, ⟨⟨(i _ _ (by omega)).trans c6, (i _ _ (by omega)).trans c7, (i _ _ (by omega)).trans c8⟩, fun l hl => (r _ _).trans (cl l hl), fun p hp => (r _ _).trans (cp p hp), fun g hg => (r _ _).trans (cg g hg)⟩, fun l hl => ?_, fun p hp => ?_, fun g hg => ?_, ⟨(i _ _ (by omega)).trans h18, fun k hk2 => ?_⟩, ⟨⟨(by rw [r, hnx]; exact hmv.1.1), (by rw [r, hnx]; exact hmv.1.2)⟩, fun l p ot g hl hp hg e1 e2 e3 e4 => ?_⟩, fun l p w hl hp hw => ?_, by rw [hnx]; exact hse⟩, ?_⟩
  · obtain ⟨o1, o2, o3⟩ := hse.2.1 l hl
    have := lo _ _ (o1 0 (by omega)) (by omega)
    refine (hld l hl).al hA hE (fun b k q1 q2 => by omega) (fun k => id) (fun q hq k => ?_)
    have w := (o3 q hq).1
    have w1 := lo _ _ w.1 (by omega)
    have w2 := lo _ _ w.2 (by omega)
    exact ⟨by omega, by omega⟩
  · have := lo _ _ ((hse.2.2.1 p hp).1 0 (by omega)) (by omega)
    exact (hpr p hp).al hA hE (fun b k q1 q2 => by omega)
  · have := lo _ _ ((hse.2.2.2.1 g hg).1 0 (by omega)) (by omega)
    exact (hga g hg).al hA hE (fun b k q1 q2 => by omega) ⟨id, id⟩
  · obtain ⟨k1, k2, k3⟩ := hmc k hk2
    exact ⟨(r _ _).trans k1, k2.ext hE, (i _ _ (by omega)).trans k3⟩
  · have hl : l < sNl s := hl
    have hp : p < sNp s := hp
    rw [r] at e1 e2
    rw [i _ _ (by omega)] at e3 e4
    exact (hmv.2 l p ot g hl hp hg e1 e2 e3 e4).eq (fun k => i _ _ (by omega)) (fun k => i _ _ (by omega))
  · rw [i _ _ (by omega)]; exact han l p w hl hp hw
  · refine ⟨by rw [hnx]; exact Nat.le_refl _, fun b k q1 q2 => ⟨i _ _ (by omega), r _ _, ?_⟩, hE⟩
    unfold mJ; rw [hF.2]
theorem kp10_end {n : Int32} (h : CI M s T) (hq : ∀ B, CI B (endS s n) T → OFr M B → Q (some (vI (aEnd s n))) B) : Cl X d 0 0 m_X10_end [vR 1, vI n] M Q := by
  have h300 := h.2.1.2.2.1
  unfold aEnd endS at hq
  refine e_X10_end (b_X10_end_0 h.1.1 ?_)
  rw [h.2.1.2.1, toI_lt0, leI_n (by omega)]
  refine ⟨fun q => ?_, fun q0 => ⟨fun q M1 e1 => ?_, fun q => ?_⟩⟩
  · have e : inN n (sZ s + 1) = none := by unfold inN; rw [if_neg (by omega)]
    rw [e] at hq; exact hq M h OFr.refl
  · have e : inN n (sZ s + 1) = some n.toInt.toNat := by unfold inN; rw [if_pos (by omega)]
    obtain ⟨e4, e5⟩ := inN_some (by omega) e
    rw [e] at hq
    dsimp only at hq
    generalize n.toInt.toNat = m at e4 e5 hq
    have hF : Fr (fun b k => (b = 2 ∧ k = 1) ∨ b = 3) M M1 := by rw [e1]; exact Fr.sI (Or.inl ⟨rfl, rfl⟩)
    have hk : kT M1 m (sT s) := ⟨h.2.1.1.ext hF.ext, by rw [e1, mI_sI_eq, e4], by omega, fun j hj => ⟨by rw [e1, mI_sI_a (by decide)]; exact (h.2.1.2.2.2 j (by omega)).1, (h.2.1.2.2.2 j (by omega)).2⟩⟩
    obtain ⟨c1, c2⟩ := h.tp hF hk
    exact hq M1 c1 c2
  · have e : inN n (sZ s + 1) = none := by unfold inN; rw [if_neg (by omega)]
    rw [e] at hq; exact hq M h OFr.refl
theorem kp10_feed {a b c e f : Int32} (hd : 1 ≤ d) (h : CI M s T) (hq : ∀ B, CI B (fedS s a b c e f) T → OFr M B → Q (some (vI (aFeed s a b c e f))) B) : Cl X d 0 0 m_X10_feed [vR 1, vI a, vI b, vI c, vI e, vI f] M Q := by
  unfold aFeed fedS at hq
  refine kp_feed hd h.1.1 h.2.1 (fun hle B hF hk => ?_) (fun hn => ?_)
  · rw [if_pos hle, if_pos hle] at hq
    obtain ⟨c1, c2⟩ := h.tp (hF.mono (fun b k q => by unfold faS at q; omega)) hk
    exact hq B c1 c2
  · rw [if_neg hn, if_neg hn] at hq
    exact hq M h OFr.refl
theorem CI.rd {w : Option Nat} {i : Nat} {B : Mem} {S : Nat → Nat → Prop} (h : CI M s T) (hF : Fr S M B) (hS : ∀ b k, S b k → 4 ≤ b ∧ b ≤ 10) : CI (kst B w i) s T ∧ OFr M (kst B w i) := by
  have hF2 : Fr sfS M (kst B w i) := (hF.mono (T := sfS) (fun b k q => by have := hS b k q; unfold sfS; omega)).trans (kst_fr.mono (fun b k q => by unfold tpS at q; unfold sfS; omega))
  exact h.sf hF2.rr
theorem kp10_fault {n : Int32} (hd : 7 ≤ d) (h : CI M s T) (hq : ansQ M s T Q (aFault s n)) : Cl X d 0 0 m_X10_fault [vR 1, vI n] M Q := by
  unfold aFault at hq
  refine e_X10_fault (b_X10_fault_0 h.1.1 (by omega) ⟨fun z => ⟨fun z2 => ?_, fun z2 => ?_⟩, fun z => ?_⟩)
  · rw [if_neg z, if_neg z2] at hq; exact hq M h OFr.refl
  · rw [if_neg z, if_pos z2] at hq
    refine kp_readProtocol (by omega) h.1.1.k2 h.2.1 (fun B i hF _ => ?_)
    obtain ⟨c1, c2⟩ := h.rd (w := (protT (sZ s) (sT s)).1) (i := i) hF (fun b k q => by unfold pxS at q; omega)
    exact ⟨_, rfl, c2.2.2, hq _ c1 c2⟩
  · rw [if_pos z] at hq
    refine kp_readLand (by omega) h.1.1.k1 h.2.1 (fun B i hF _ => ?_)
    obtain ⟨c1, c2⟩ := h.rd (w := (landT (sZ s) (sT s)).1) (i := i) hF (fun b k q => by unfold lxS at q; omega)
    exact ⟨_, rfl, c2.2.2, hq _ c1 c2⟩
/-- what a roll still wants -/
def rkC (T : AdT) (l : Nat) : Nat := if (aRm T l).isSome then 0 else 3
def rkN (s : StT) (T : AdT) (l : Nat) : Nat := if (aRm T l).isSome then 0 else 5 + 2 * wy (sLs s l).1 (sLs s l).2.1
theorem roX.K {la c w K : Nat} {W : Nat → Nat → Nat} {ls : List Nat} (h : roX M la W ls) (h1 : mR M la 0 = c) (h2 : mR M la 1 = w) (h3 : isK M c 14 K) (h4 : isK M w 14 K) : roK M la c w K W ls := by
  obtain ⟨g1, K', g2, g3, g4, g5, g6, g7, g8⟩ := h
  rw [h1] at g3 g7
  rw [h2] at g4 g8
  obtain ⟨-, e⟩ := isK_fun g3 h3
  subst e
  exact ⟨g1, ⟨h1, h2⟩, ⟨g2, g3, g4, g5⟩, g6, g7, g8⟩
/-- addresses are as they were, but for the room of the roll of l -/
def tRm (T : AdT) (l : Nat) (q : Nat × Nat) (n : Nat) : AdT := (aLa T, aPa T, aGa T, (fun l' => if l' = l then some q else aRm T l'), fun b => if n ≤ b then 100 + l else aOw T b)
theorem kp_roll {l : Nat} (hd : 5 ≤ d) (h : CI M s T) (hl : l < sNl s) (hR : laR M (aLa T l) (sLs s l)) (h14 : mI M (aLa T l) 14 = nI 0) (hkc : rkC T l ≤ kc) (hns : rkN s T l ≤ ns)
    (hq : ∀ B T' c w, CI B s T' → OFr M B → (T' = T ∨ (aRm T l = none ∧ T' = tRm T l (c, w) (nx M))) → aRm T' l = some (c, w) → aLa T' l = aLa T l → laR B (aLa T l) (sLs s l) → mI B (aLa T l) 14 = nI 0 → roK B (aLa T l + 9) c w (wy (sLs s l).1 (sLs s l).2.1) (wiL (sLs s l)) (lsL (sLs s l) (whL (sLs s l)) (sLs s l).2.1) → (∀ k, mI B 73 k = mI M 73 k ∧ mI B 74 k = mI M 74 k) → Q (some (vR (aLa T l + 9))) B) : Cl X d kc ns m_X3_rollOfCuts [vR (aLa T l), vR 29] M Q := by
  have lo := h.lo hl
  have hse := h.2.2.2.2.2.2.2.2.2
  obtain ⟨o1, o2, o3⟩ := hse.2.1 l hl
  obtain ⟨d1, d2, d3, d4, d5⟩ := h.2.2.2.1 l hl
  have h6 := h.1.2.2.1.1
  cases hr : aRm T l with
  | some q =>
    obtain ⟨c, w⟩ := q
    rw [hr] at d5
    obtain ⟨⟨a1, a2, a3⟩, ⟨b1, b2⟩, ⟨c1, c2⟩, dd⟩ := d5
    dsimp only at a1 a2 a3 b1 b2 c1 c2 dd
    obtain ⟨⟨w1, w2⟩, ⟨w3, w4⟩, w5, w6⟩ := o3 _ hr
    dsimp only at w1 w2 w3 w4 w5 w6
    rcases dd with dd | ⟨e1, e2⟩
    · refine kp_roll2 hd (by omega) a1 a2 a3 hR h.1.1.k11 h.2.2.2.2.2.2.1.1 dd ⟨b1, b2⟩ ⟨c1, c2⟩ (fun B hF hRB hX h3 => ?_)
      have hcT : ∀ b k, cbT 29 b k → sfT b k := fun b k q => Or.inl (Or.inl q)
      have hS : ∀ b k, rlS (aLa T l) c w b k → ixS T (100 + l) b k := fun b k q => by
        unfold rlS flS at q
        rcases q with q | q | q | q
        · exact Or.inl (by unfold cbS at q; unfold sfS slS; omega)
        · exact Or.inl (by unfold cuS at q; unfold sfS slS; omega)
        · right
          unfold enF at q
          rcases q with q | q | q
          · rw [q]; exact w1
          · rw [q]; exact w2
          · rw [q.1]; exact o1 9 (by omega)
        · right; rw [q.1]; exact o1 9 (by omega)
      have nS : ∀ b k, 33 < b → b ≠ c → b ≠ w → (b = aLa T l + 9 → k ≠ 2 ∧ k ≠ 3) → ¬ rlS (aLa T l) c w b k := fun b k q1 q2 q3 q4 q => by
        unfold rlS flS cbS cuS enF at q
        omega
      have r0 : mR B (aLa T l + 9) 0 = c := (hF.r (by unfold cbT; omega)).trans b1
      have r1 : mR B (aLa T l + 9) 1 = w := (hF.r (by unfold cbT; omega)).trans b2
      have hK := hX.K r0 r1 (hF.k c1) (hF.k c2)
      have i14 : mI B (aLa T l) 14 = nI 0 := (hF.i (nS _ _ (by omega) (by omega) (by omega) (by omega))).trans h14
      have hB : ldX B (aLa T l) (sLs s l) (aRm T l) (gOn s l) := by
        rw [hr]
        exact ⟨hRB.1, (hF.i (nS _ _ (by omega) (by omega) (by omega) (by omega))).trans d2, Or.inl ⟨i14, hRB.2.1⟩, ⟨(hF.i (nS _ _ (by omega) (by omega) (by omega) (by omega))).trans d4.1, fun _ => i14⟩, ⟨a1, a2, a3⟩, ⟨r0, r1⟩, ⟨hF.k c1, hF.k c2⟩, Or.inr ⟨h3, fun _ => hK⟩⟩
      obtain ⟨x1, x2⟩ := h.ld hl (hF.mono hS hcT) hB
      exact hq B T c w x1 x2 (Or.inl rfl) hr rfl hRB i14 hK (fun k => ⟨hF.i (nS _ _ (by omega) (by omega) (by omega) (by omega)), hF.i (nS _ _ (by omega) (by omega) (by omega) (by omega))⟩)
    · exact kp_roll1 hR e1 (by omega) (hq M T c w h OFr.refl (Or.inl rfl) hr rfl hR h14 (e2 h14) (fun k => ⟨rfl, rfl⟩))
  | none =>
    rw [hr] at d5
    obtain ⟨a1, a2⟩ := d5
    unfold rkC at hkc
    unfold rkN at hns
    rw [hr] at hkc hns
    refine kp_roll3 hd (by omega) hR h.1.1.k11 h.2.2.2.2.2.2.1.1 a2 a1 hkc hns (fun B hF hnx hRB hX h3 hrm => ?_)
    obtain ⟨r0, r1, k1, k2⟩ := hrm
    have l90 := hse.2.2.2.2
    have nS : ∀ b k, b < nx M → 33 < b → (b = aLa T l + 9 → k ≠ 2 ∧ k ≠ 3) → ¬ rlS (aLa T l) (nx M + 1) (nx M + 2) b k := fun b k q1 q2 q4 q => by
      unfold rlS flS cbS cuS enF at q
      omega
    have hFx : Fal (ixS T (100 + l)) (ixT T (100 + l)) M B := by
      refine ⟨hF.1, fun b k hb hn => hF.2.1 b k hb (fun q => hn ?_), fun b k hb hn => hF.2.2.1 b k hb (fun q => hn ?_), hF.2.2.2.1, hF.2.2.2.2⟩
      · unfold rlS flS at q
        rcases q with q | q | q | q
        · exact Or.inl (by unfold cbS at q; unfold sfS slS; omega)
        · exact Or.inl (by unfold cuS at q; unfold sfS slS; omega)
        · right
          unfold enF at q
          rcases q with q | q | q
          · omega
          · omega
          · rw [q.1]; exact o1 9 (by omega)
        · right; rw [q.1]; exact o1 9 (by omega)
      · rcases q with q | q
        · exact Or.inl (Or.inl (Or.inl q))
        · right; rw [q.1]; exact o1 9 (by omega)
    have hE : Ext M B := hF.ext (fun b k ci n q hk => by
      rcases q with ⟨rfl, rfl⟩ | ⟨rfl, q⟩
      · obtain ⟨e1, -⟩ := isK_fun h.1.1.k11.o hk
        subst e1; rfl
      · obtain ⟨e1, -⟩ := isK_fun d1.1.k13.o hk
        subst e1
        rcases (show k = 0 ∨ k = 1 by omega) with rfl | rfl <;> rfl)
    obtain ⟨⟨y1, y2, y3, y4, y5, y6, y7, y8, y9⟩, y10⟩ := h.old (x := 100 + l) (by omega) hFx hE
    have hK := hX.K r0 r1 k1 k2
    have i14 : mI B (aLa T l) 14 = nI 0 := (hF.2.1 _ _ (by omega) (nS _ _ (by omega) (by omega) (by omega))).trans h14
    have eR : aRm (tRm T l (nx M + 1, nx M + 2) (nx M)) l = some (nx M + 1, nx M + 2) := if_pos rfl
    have eRn : ∀ l', l' ≠ l → aRm (tRm T l (nx M + 1, nx M + 2) (nx M)) l' = aRm T l' := fun l' q => if_neg q
    have eO : ∀ b, b < nx M → aOw (tRm T l (nx M + 1, nx M + 2) (nx M)) b = aOw T b := fun b q => if_neg (by omega)
    have eN : ∀ b, nx M ≤ b → aOw (tRm T l (nx M + 1, nx M + 2) (nx M)) b = 100 + l := fun b q => if_pos q
    have hld : ∀ l', l' < sNl s → ldX B (aLa T l') (sLs s l') (aRm (tRm T l (nx M + 1, nx M + 2) (nx M)) l') (gOn s l') := fun l' hl' => by
      by_cases z : l' = l
      · subst z
        rw [eR]
        exact ⟨hRB.1, (hF.2.1 _ _ (by omega) (nS _ _ (by omega) (by omega) (by omega))).trans d2, Or.inl ⟨i14, hRB.2.1⟩, ⟨(hF.2.1 _ _ (by omega) (nS _ _ (by omega) (by omega) (by omega))).trans d4.1, fun _ => i14⟩, ⟨by dsimp only; omega, by dsimp only; omega, by dsimp only; omega⟩, ⟨r0, r1⟩, ⟨k1, k2⟩, Or.inr ⟨h3, fun _ => hK⟩⟩
      · rw [eRn l' z]; exact y4 l' hl' (by omega)
    have hsep : sepX (nx B) s (tRm T l (nx M + 1, nx M + 2) (nx M)) := by
      refine ⟨fun b hb => by rw [eO b (by omega)]; exact hse.1 b hb, fun l' hl' => ?_, fun p hp => ?_, fun g hg => ?_, by omega⟩
      · obtain ⟨p1, p2, p3⟩ := hse.2.1 l' hl'
        refine ⟨fun j hj => ?_, ?_, fun q hq2 => ?_⟩
        · show aOw _ (aLa T l' + j) = 100 + l'
          rw [eO _ (by omega)]; exact p1 j hj
        · show aLa T l' + 11 < nx B
          omega
        · by_cases z : l' = l
          · subst z
            rw [eR] at hq2
            cases hq2
            refine ⟨⟨eN _ (by dsimp only; omega), eN _ (by dsimp only; omega)⟩, ⟨?_, ?_⟩, by dsimp only; omega, by dsimp only; omega⟩
            · show aLa T l' + 11 < nx M + 1; omega
            · show aLa T l' + 11 < nx M + 2; omega
          · rw [eRn l' z] at hq2
            obtain ⟨⟨q1, q2⟩, q3, q4, q5⟩ := p3 q hq2
            exact ⟨⟨by rw [eO _ q4]; exact q1, by rw [eO _ q5]; exact q2⟩, q3, by omega, by omega⟩
      · obtain ⟨p1, p2⟩ := hse.2.2.1 p hp
        exact ⟨fun j hj => by show aOw _ (aPa T p + j) = _; rw [eO _ (by omega)]; exact p1 j hj, by show aPa T p + 2 < _; omega⟩
      · obtain ⟨p1, p2⟩ := hse.2.2.2.1 g hg
        exact ⟨fun j hj => by show aOw _ (aGa T g + j) = _; rw [eO _ (by omega)]; exact p1 j hj, by show aGa T g + 4 < _; omega⟩
    have hCI : CI B s (tRm T l (nx M + 1, nx M + 2) (nx M)) := ⟨⟨y1, h.1.2⟩, y2, y3, hld, y5, fun g hg => y6 g hg (by omega), y7, y8, y9, hsep⟩
    exact hq B _ (nx M + 1) (nx M + 2) hCI y10 (Or.inr ⟨hr, rfl⟩) eR rfl hRB i14 hK (fun k => ⟨hF.2.1 _ _ (by omega) (nS _ _ (by omega) (by omega) (by omega)), hF.2.1 _ _ (by omega) (nS _ _ (by omega) (by omega) (by omega))⟩)
end API
