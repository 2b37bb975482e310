/-! THE CLASS: the whole object -/
/-- where things lie: lands, protocols, games, the rooms of rolls, and whose a cell is -/
abbrev AdT : Type := (Nat → Nat) × (Nat → Nat) × (Nat → Nat) × (Nat → Option (Nat × Nat)) × (Nat → Nat)
def aLa (T : AdT) : Nat → Nat := T.1
def aPa (T : AdT) : Nat → Nat := T.2.1
def aGa (T : AdT) : Nat → Nat := T.2.2.1
def aRm (T : AdT) : Nat → Option (Nat × Nat) := T.2.2.2.1
def aOw (T : AdT) : Nat → Nat := T.2.2.2.2
/-- the roll of the land at la -/
def rlX (M : Mem) (la : Nat) (L : LandT) (rm : Option (Nat × Nat)) : Prop := match rm with
  | none => isK M (mR M (la + 9) 0) 14 0 ∧ mI M (la + 9) 3 = nI 0
  | some q => (q.1 ≠ q.2 ∧ la + 9 < q.1 ∧ la + 9 < q.2) ∧ (mR M (la + 9) 0 = q.1 ∧ mR M (la + 9) 1 = q.2) ∧ (isK M q.1 14 (wy L.1 L.2.1) ∧ isK M q.2 14 (wy L.1 L.2.1)) ∧ (mI M (la + 9) 3 = nI 0 ∨ (mI M (la + 9) 3 = nI 1 ∧ (mI M la 14 = nI 0 → roK M (la + 9) q.1 q.2 (wy L.1 L.2.1) (wiL L) (lsL L (whL L) L.2.1))))
/-- the land at la -/
def ldX (M : Mem) (la : Nat) (L : LandT) (rm : Option (Nat × Nat)) (pl : Bool) : Prop := laC M la L ∧ mI M (la + 1) 0 = nI 0 ∧ ((mI M la 14 = nI 0 ∧ laF M la L) ∨ mI M la 14 = nI 1) ∧ (mI M la 15 = bI pl ∧ (pl = true → mI M la 14 = nI 0)) ∧ rlX M la L rm
/-- whose cells are whose -/
def sepX (n : Nat) (s : StT) (T : AdT) : Prop := (∀ b, b < 105 → aOw T b = 0) ∧ (∀ l, l < sNl s → (∀ j, j ≤ 11 → aOw T (aLa T l + j) = 100 + l) ∧ aLa T l + 11 < n ∧ ∀ q, aRm T l = some q → (aOw T q.1 = 100 + l ∧ aOw T q.2 = 100 + l) ∧ (aLa T l + 11 < q.1 ∧ aLa T l + 11 < q.2) ∧ q.1 < n ∧ q.2 < n) ∧ (∀ p, p < sNp s → (∀ j, j ≤ 2 → aOw T (aPa T p + j) = 200 + p) ∧ aPa T p + 2 < n) ∧ (∀ g, g < sNg s → (∀ j, j ≤ 4 → aOw T (aGa T g + j) = 300 + g) ∧ aGa T g + 4 < n) ∧ 105 ≤ n
/-- what the mind remembers is of the game it is turned to -/
def mvX (M : Mem) (s : StT) (T : AdT) : Prop := (mR M 38 5 < nx M ∧ mR M 38 6 < nx M) ∧ ∀ l p ot g, l < sNl s → p < sNp s → g < 3 → mR M 38 5 = aLa T l → mR M 38 6 = aPa T p → mI M 38 7 = bI ot → mI M 38 8 = nI g → mmX M (sLs s l) (sPs s p) g ot
def edI (L : LandT) (P : ProT) : Int32 := match enL L P with
  | none => -1
  | some c => nI c
/-- what is kept of protocols in lands -/
def anX (M : Mem) (s : StT) : Prop := ∀ l p w, l < 6 → p < 8 → w < 5 → mI M 72 (5 * (8 * l + p) + w) = (-1000) ∨ (l < sNl s ∧ p < sNp s ∧ mI M 72 (5 * (8 * l + p) + w) = (if w < 3 then zI (sgI w (vnF (sLs s l) (sPs s p) w false (stG (sLs s l) (sPs s p)))) else if w = 3 then zI (vnF (sLs s l) (sPs s p) 0 true (stG (sLs s l) (sPs s p))) else edI (sLs s l) (sPs s p)))
def CI (M : Mem) (s : StT) (T : AdT) : Prop := (TpS M ∧ SOK s) ∧ kT M (sZ s) (sT s) ∧ ((mI M 1 6 = nI (sNl s) ∧ mI M 1 7 = nI (sNp s) ∧ mI M 1 8 = nI (sNg s)) ∧ (∀ l, l < sNl s → mR M 11 l = aLa T l) ∧ (∀ p, p < sNp s → mR M 12 p = aPa T p) ∧ ∀ g, g < sNg s → mR M 13 g = aGa T g) ∧
  (∀ l, l < sNl s → ldX M (aLa T l) (sLs s l) (aRm T l) (gOn s l)) ∧ (∀ p, p < sNp s → prX M (aPa T p) (sPs s p)) ∧ (∀ g, g < sNg s → gaX M (aGa T g) (aLa T (sGs s g).1) (aPa T (sGs s g).2.1) (sLs s (sGs s g).1) (gmO s g) (sGs s g).2.2) ∧
  (mI M 33 0 = nI 0 ∧ mcX M) ∧ mvX M s T ∧ anX M s ∧ sepX (nx M) s T
/-- the reference's cells have not been touched -/
def OFr (M B : Mem) : Prop := nx M ≤ nx B ∧ (∀ b k, 75 ≤ b → b < 105 → mI B b k = mI M b k ∧ mR B b k = mR M b k ∧ mJ B b k = mJ M b k) ∧ Ext M B
theorem OFr.refl {M : Mem} : OFr M M := ⟨Nat.le_refl _, fun _ _ _ _ => ⟨rfl, rfl, rfl⟩, Ext.refl _⟩
theorem OFr.trans {M B C : Mem} (h1 : OFr M B) (h2 : OFr B C) : OFr M C := ⟨Nat.le_trans h1.1 h2.1, fun b k a c => ⟨((h2.2.1 b k a c).1).trans (h1.2.1 b k a c).1, ((h2.2.1 b k a c).2.1).trans (h1.2.1 b k a c).2.1, ((h2.2.1 b k a c).2.2).trans (h1.2.1 b k a c).2.2⟩, h1.2.2.trans h2.2.2⟩
/-- what nobody looks at between calls -/
def sfS (b k : Nat) : Prop := (b = 2 ∧ 2 ≤ k) ∨ (4 ≤ b ∧ b ≤ 10) ∨ slS b k ∨ (b = 38 ∧ k = 9) ∨ b = 42 ∨ (43 ≤ b ∧ b < 67 ∧ ¬ ((b = 47 ∨ b = 53 ∨ b = 59 ∨ b = 65) ∧ k = 0)) ∨ (67 ≤ b ∧ b ≤ 71) ∨ b = 73 ∨ b = 74
def sfT (b k : Nat) : Prop := slT b k ∨ mnT 4 b k ∨ (b = 67 ∧ (k = 2 ∨ k = 3))
section WHOLE
variable {M B : Mem} {s : StT} {T : AdT}
theorem CI.sc (h : CI M s T) : scX M := ⟨h.1.1.k11, h.2.2.2.2.2.2.1.1, h.1.1.k12⟩
theorem sfT_ok (h : CI M s T) : ∀ b k ci n, sfT b k → isK M b ci n → finR ci k = false := fun b k ci n q hk => by
  rcases q with q | q | q
  · exact slT_ok h.sc b k ci n q hk
  · rcases q with ⟨rfl, q2⟩ | ⟨j, j1, j2, rfl, rfl⟩
    · exact slT_ok h.sc 35 k ci n (Or.inr ⟨rfl, q2⟩) hk
    · obtain ⟨e1, -⟩ := isK_fun (h.2.2.2.2.2.2.1.2 j j2).2.1.o hk
      subst e1; rfl
  · obtain ⟨rfl, q⟩ := q
    obtain ⟨e1, -⟩ := isK_fun h.1.1.k14.o hk
    subst e1
    rcases q with rfl | rfl <;> rfl
theorem sfS_no {b k : Nat} (h : 75 ≤ b) : ¬ sfS b k := fun q => by unfold sfS slS at q; omega
theorem sfT_no {b k : Nat} (h : 75 ≤ b) : ¬ sfT b k := fun q => by
  rcases q with q | q | q
  · unfold slT at q; omega
  · rcases q with q | ⟨j, j1, j2, j3, j4⟩ <;> omega
  · omega
/-- owned cells lie behind the reference's -/
theorem sepX.lo {n b x : Nat} (h : sepX n s T) (hb : aOw T b = x) (hx : x ≠ 0) : 105 ≤ b := by
  refine Classical.byContradiction (fun q => ?_)
  have := h.1 b (by omega)
  omega
theorem stL.al {S R : Nat → Nat → Prop} {a base : Nat} {xs : List Nat} (h : stL M a base xs) (hF : Fal S R M B) (ha : a < nx M) (hS : ∀ k, ¬ S a k) : stL B a base xs := fun k x hk => (hF.2.1 a _ ha (hS _)).trans (h k x hk)
theorem ldX.al {S R : Nat → Nat → Prop} {la : Nat} {L : LandT} {rm : Option (Nat × Nat)} {pl : Bool} (h : ldX M la L rm pl) (hF : Fal S R M B) (hE : Ext M B) (h1 : ∀ b k, la ≤ b → b ≤ la + 9 → ¬ S b k) (h2 : ∀ k, ¬ R (la + 9) k) (h3 : ∀ q, rm = some q → ∀ k, ¬ S q.1 k ∧ ¬ S q.2 k) : ldX B la L rm pl := by
  obtain ⟨⟨g1, ⟨g2, g3, g4, g5⟩, ⟨k0, k1, k2, k3, k4⟩, g6, g7, g8, g9⟩, z1, st, pd, rl⟩ := h
  have l9 : la + 9 < nx M := isK_lt g1.k13.o
  have i : ∀ b k, la ≤ b → b ≤ la + 9 → mI B b k = mI M b k := fun b k a c => hF.2.1 b k (by omega) (h1 b k a c)
  have rr : ∀ k, mR B (la + 9) k = mR M (la + 9) k := fun k => hF.2.2.1 _ _ l9 (h2 k)
  refine ⟨⟨g1.ext hE, ⟨(hF.mN g1.k8).trans g2, (hF.mN g1.k9).trans g3, (hF.mN g1.k10).trans g4, (hF.mN g1.k11).trans g5⟩, ⟨(i _ _ (by omega) (by omega)).trans k0, (i _ _ (by omega) (by omega)).trans k1, (i _ _ (by omega) (by omega)).trans k2, (i _ _ (by omega) (by omega)).trans k3, (i _ _ (by omega) (by omega)).trans k4⟩, fun p hp k hk => (i _ _ (by omega) (by omega)).trans (g6 p hp k hk), fun p hp => ⟨(i _ _ (by omega) (by omega)).trans (g7 p hp).1, (i _ _ (by omega) (by omega)).trans (g7 p hp).2⟩, fun x hx => (i _ _ (by omega) (by omega)).trans (g8 x hx), (i _ _ (by omega) (by omega)).trans g9⟩, (i _ _ (by omega) (by omega)).trans z1, ?_, ⟨(i _ _ (by omega) (by omega)).trans pd.1, fun w => (i la 14 (by omega) (by omega)).trans (pd.2 w)⟩, ?_⟩
  · have e := i la 14 (by omega) (by omega)
    rcases st with ⟨a, b⟩ | a
    · exact Or.inl ⟨e.trans a, fun x hx => ⟨(i _ _ (by omega) (by omega)).trans (b x hx).1, (i _ _ (by omega) (by omega)).trans (b x hx).2.1, (i _ _ (by omega) (by omega)).trans (b x hx).2.2⟩⟩
    · exact Or.inr (e.trans a)
  · cases rm with
    | none =>
      obtain ⟨a, b⟩ := rl
      refine ⟨?_, (i _ _ (by omega) (by omega)).trans b⟩
      rw [rr]; exact hF.2.2.2.2 _ _ _ a
    | some q =>
      obtain ⟨a, ⟨b1, b2⟩, ⟨c1, c2⟩, dd⟩ := rl
      have h3 := h3 q rfl
      refine ⟨a, ⟨(rr 0).trans b1, (rr 1).trans b2⟩, ⟨hF.2.2.2.2 _ _ _ c1, hF.2.2.2.2 _ _ _ c2⟩, ?_⟩
      have e3 := i (la + 9) 3 (by omega) (by omega)
      rcases dd with dd | ⟨d1, d2⟩
      · exact Or.inl (e3.trans dd)
      · refine Or.inr ⟨e3.trans d1, fun w => ?_⟩
        have := d2 ((i la 14 (by omega) (by omega)).symm.trans w)
        exact this.al hF (h1 _ _ (by omega) (by omega)) (fun k => (h3 k).1) (fun k => (h3 k).2) (h2 0) (h2 1)
theorem prX.al {S R : Nat → Nat → Prop} {pr : Nat} {P : ProT} (h : prX M pr P) (hF : Fal S R M B) (hE : Ext M B) (hS : ∀ b k, pr < b → b ≤ pr + 2 → ¬ S b k) : prX B pr P := by
  have l1 : pr + 1 < nx M := isK_lt h.1.k0
  have l2 : pr + 2 < nx M := isK_lt h.1.k1
  exact ⟨h.1.ext hE, fun k hk => ⟨(hF.2.1 _ _ l1 (hS _ _ (by omega) (by omega))).trans (h.2 k hk).1, (hF.2.1 _ _ l2 (hS _ _ (by omega) (by omega))).trans (h.2 k hk).2⟩⟩
theorem gaX.al {S R : Nat → Nat → Prop} {a la pr : Nat} {L : LandT} {G : GamT} {mv : List Nat} (h : gaX M a la pr L G mv) (hF : Fal S R M B) (hE : Ext M B) (hS : ∀ b k, a ≤ b → b ≤ a + 4 → ¬ S b k) (hR : ¬ R a 2 ∧ ¬ R a 3) : gaX B a la pr L G mv := by
  obtain ⟨⟨c1, c2, c3⟩, ⟨m1, m2⟩, ⟨⟨k1, k2⟩, k3, k4⟩, ⟨p1, p2, p3, p4, p5, p6⟩⟩ := h
  have l4 : a + 4 < nx M := isK_lt c1.k13
  have j : ∀ b k, a ≤ b → b ≤ a + 4 → mI B b k = mI M b k := fun b k x y => hF.2.1 b k (by omega) (hS b k x y)
  exact ⟨⟨c1.ext hE, (hF.2.2.1 _ _ (by omega) hR.1).trans c2, (hF.2.2.1 _ _ (by omega) hR.2).trans c3⟩, ⟨(j _ _ (by omega) (by omega)).trans m1, m2.al hF (by omega) (fun k => hS _ _ (by omega) (by omega))⟩, ⟨⟨(j _ _ (by omega) (by omega)).trans k1, k2.al hF (by omega) (fun k => hS _ _ (by omega) (by omega))⟩, (j _ _ (by omega) (by omega)).trans k3, (j _ _ (by omega) (by omega)).trans k4⟩, (j _ _ (by omega) (by omega)).trans p1, fun w => (j _ _ (by omega) (by omega)).trans (p2 w), fun w x hx => (j _ _ (by omega) (by omega)).trans (p3 w x hx), fun w x hx => (j _ _ (by omega) (by omega)).trans (p4 w x hx), fun w => (j _ _ (by omega) (by omega)).trans (p5 w), fun w => (j _ _ (by omega) (by omega)).trans (p6 w)⟩
def ixS (T : AdT) (x b k : Nat) : Prop := sfS b k ∨ aOw T b = x
def ixT (T : AdT) (x b k : Nat) : Prop := sfT b k ∨ aOw T b = x
/-- what stays when scratch and the cells of the owner x alone have changed, and new ones have come -/
def oldX (B : Mem) (s : StT) (T : AdT) (x : Nat) : Prop := TpS B ∧ kT B (sZ s) (sT s) ∧ ((mI B 1 6 = nI (sNl s) ∧ mI B 1 7 = nI (sNp s) ∧ mI B 1 8 = nI (sNg s)) ∧ (∀ l, l < sNl s → mR B 11 l = aLa T l) ∧ (∀ p, p < sNp s → mR B 12 p = aPa T p) ∧ ∀ g, g < sNg s → mR B 13 g = aGa T g) ∧
  (∀ l, l < sNl s → 100 + l ≠ x → ldX B (aLa T l) (sLs s l) (aRm T l) (gOn s l)) ∧ (∀ p, p < sNp s → prX B (aPa T p) (sPs s p)) ∧ (∀ g, g < sNg s → 300 + g ≠ x → gaX B (aGa T g) (aLa T (sGs s g).1) (aPa T (sGs s g).2.1) (sLs s (sGs s g).1) (gmO s g) (sGs s g).2.2) ∧
  (mI B 33 0 = nI 0 ∧ mcX B) ∧ mvX B s T ∧ anX B s
theorem CI.old {x : Nat} (h : CI M s T) (hx : x ≠ 0 ∧ ¬ (200 ≤ x ∧ x < 300)) (hF : Fal (ixS T x) (ixT T x) M B) (hE : Ext M B) : oldX B s T x ∧ OFr M B := by
  obtain ⟨⟨hTp, hSO⟩, hk, ⟨⟨c6, c7, c8⟩, cl, cp, cg⟩, hld, hpr, hga, ⟨h18, hmc⟩, hmv, han, hse⟩ := h
  have l90 : 105 ≤ nx M := hse.2.2.2.2
  have lo : ∀ b, b < 105 → aOw T b = 0 := hse.1
  have i : ∀ b k, b < 105 → ¬ sfS b k → mI B b k = mI M b k := fun b k hb q => hF.2.1 b k (by omega) (fun w => by
    rcases w with w | w
    · exact q w
    · have := lo b hb; omega)
  have r : ∀ b k, b < 105 → ¬ sfT b k → mR B b k = mR M b k := fun b k hb q => hF.2.2.1 b k (by omega) (fun w => by
    rcases w with w | w
    · exact q w
    · have := lo b hb; omega)
  have nT : ∀ b k, b ≠ 35 → b ≠ 29 → b ≠ 67 → (b < 43 ∨ 61 < b) → ¬ sfT b k := fun b k q1 q2 q3 q4 q => by
    rcases q with q | q | q
    · unfold slT at q; omega
    · rcases q with q | ⟨j, j1, j2, j3, j4⟩ <;> omega
    · omega
  have nS : ∀ b k y, aOw T b = y → y ≠ 0 → y ≠ x → ¬ ixS T x b k := fun b k y h1 h2 h3 w => by
    have := hse.lo h1 h2
    rcases w with w | w
    · exact sfS_no (by omega) w
    · omega
  have nR : ∀ b k y, aOw T b = y → y ≠ 0 → y ≠ x → ¬ ixT T x b k := fun b k y h1 h2 h3 w => by
    have := hse.lo h1 h2
    rcases w with w | w
    · exact sfT_no (by omega) w
    · omega
  refine ⟨⟨hTp.ext hE, ⟨hk.1.ext hE, (i _ _ (by decide) (by unfold sfS slS; omega)).trans hk.2.1, hk.2.2.1, fun k hk2 => ⟨(i _ _ (by decide) (by unfold sfS slS; omega)).trans (hk.2.2.2 k hk2).1, (hk.2.2.2 k hk2).2⟩⟩, ⟨⟨(i _ _ (by decide) (by unfold sfS slS; omega)).trans c6, (i _ _ (by decide) (by unfold sfS slS; omega)).trans c7, (i _ _ (by decide) (by unfold sfS slS; omega)).trans c8⟩, fun l hl => (r _ _ (by decide) (nT _ _ (by decide) (by decide) (by decide) (by decide))).trans (cl l hl), fun p hp => (r _ _ (by decide) (nT _ _ (by decide) (by decide) (by decide) (by decide))).trans (cp p hp), fun g hg => (r _ _ (by decide) (nT _ _ (by decide) (by decide) (by decide) (by decide))).trans (cg g hg)⟩, fun l hl hlx => ?_, fun p hp => ?_, fun g hg hgx => ?_, ⟨(i _ _ (by decide) (by unfold sfS slS; omega)).trans h18, fun k hk2 => ?_⟩, ⟨⟨(by rw [r _ _ (by decide) (nT _ _ (by decide) (by decide) (by decide) (by decide))]; exact Nat.lt_of_lt_of_le hmv.1.1 hF.1), (by rw [r _ _ (by decide) (nT _ _ (by decide) (by decide) (by decide) (by decide))]; exact Nat.lt_of_lt_of_le hmv.1.2 hF.1)⟩, fun l p ot g hl hp hg e1 e2 e3 e4 => ?_⟩, fun l p w hl hp hw => ?_⟩, ?_⟩
  · obtain ⟨o1, o2, o3⟩ := hse.2.1 l hl
    refine (hld l hl).al hF hE (fun b k q1 q2 => nS b k (100 + l) (by rw [← o1 (b - aLa T l) (by omega)]; congr 1; omega) (by omega) hlx) (fun k => nR _ k (100 + l) (o1 9 (by omega)) (by omega) hlx) (fun q hq k => ?_)
    obtain ⟨⟨w1, w2⟩, w3, w4⟩ := o3 q hq
    exact ⟨nS _ k _ w1 (by omega) hlx, nS _ k _ w2 (by omega) hlx⟩
  · obtain ⟨o1, o2⟩ := hse.2.2.1 p hp
    have p8 := hSO.2.2.1.1
    exact (hpr p hp).al hF hE (fun b k q1 q2 => nS b k (200 + p) (by rw [← o1 (b - aPa T p) (by omega)]; congr 1; omega) (by omega) (by omega))
  · obtain ⟨o1, o2⟩ := hse.2.2.2.1 g hg
    exact (hga g hg).al hF hE (fun b k q1 q2 => nS b k (300 + g) (by rw [← o1 (b - aGa T g) (by omega)]; congr 1; omega) (by omega) hgx) ⟨nR _ _ _ (o1 0 (by omega)) (by omega) hgx, nR _ _ _ (o1 0 (by omega)) (by omega) hgx⟩
  · obtain ⟨k1, k2, k3⟩ := hmc k hk2
    exact ⟨(r _ _ (by decide) (nT _ _ (by decide) (by decide) (by decide) (by decide))).trans k1, k2.ext hE, (i _ _ (by omega) (by unfold sfS slS; omega)).trans k3⟩
  · have r23 : ∀ k, mR B 38 k = mR M 38 k := fun k => r _ _ (by decide) (nT _ _ (by decide) (by decide) (by decide) (by decide))
    rw [r23] at e1 e2
    rw [i _ _ (by decide) (by unfold sfS slS; omega)] at e3 e4
    exact (hmv.2 l p ot g hl hp hg e1 e2 e3 e4).eq (fun k => i _ _ (by decide) (by unfold sfS slS; omega)) (fun k => i _ _ (by decide) (by unfold sfS slS; omega))
  · rw [i _ _ (by decide) (by unfold sfS slS; omega)]; exact han l p w hl hp hw
  · refine ⟨hF.1, fun b k q1 q2 => ⟨i _ _ q2 (sfS_no q1), r _ _ q2 (sfT_no q1), hF.2.2.2.1 b k (by omega)⟩, hE⟩
/-- nothing but scratch has changed -/
theorem CI.sf (h : CI M s T) (hF : Frr sfS sfT M B) : CI B s T ∧ OFr M B := by
  have hE := hF.ext (sfT_ok h)
  have hnx : nx B = nx M := by unfold nx; rw [hF.2.2]
  obtain ⟨⟨o1, o2, o3, o4, o5, o6, o7, o8, o9⟩, o10⟩ := h.old (x := 7) (by decide) (hF.al.mono (fun b k q => Or.inl q) (fun b k q => Or.inl q)) hE
  exact ⟨⟨⟨o1, h.1.2⟩, o2, o3, fun l hl => o4 l hl (by omega), o5, fun g hg => o6 g hg (by omega), o7, o8, o9, by rw [hnx]; exact h.2.2.2.2.2.2.2.2.2⟩, o10⟩
/-- a land and its tables have changed, not what it is -/
theorem CI.ld {l : Nat} (h : CI M s T) (hl : l < sNl s) (hF : Frr (ixS T (100 + l)) sfT M B) (hB : ldX B (aLa T l) (sLs s l) (aRm T l) (gOn s l)) : CI B s T ∧ OFr M B := by
  have hE := hF.ext (sfT_ok h)
  have hnx : nx B = nx M := by unfold nx; rw [hF.2.2]
  have h6 := h.1.2.2.1.1
  obtain ⟨⟨o1, o2, o3, o4, o5, o6, o7, o8, o9⟩, o10⟩ := h.old (x := 100 + l) (by omega) (hF.al.mono (fun b k q => q) (fun b k q => Or.inl q)) hE
  refine ⟨⟨⟨o1, h.1.2⟩, o2, o3, fun l' hl' => ?_, o5, fun g hg => o6 g hg (by omega), o7, o8, o9, by rw [hnx]; exact h.2.2.2.2.2.2.2.2.2⟩, o10⟩
  by_cases z : l' = l
  · subst z; exact hB
  · exact o4 l' hl' (by omega)
end WHOLE
