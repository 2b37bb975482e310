/-! THE CLASS: the mind of the object -/
theorem ch_o (q : Option (Int × Nat)) : chI q = oI (q.map (·.2)) := by cases q <;> rfl
/-- scratch, and the mind -/
def miS (b k : Nat) : Prop := sfS b k ∨ b = 40 ∨ b = 41 ∨ (b = 38 ∧ (k = 7 ∨ k = 8)) ∨ b = 72
def miT (b k : Nat) : Prop := sfT b k ∨ (b = 38 ∧ (k = 5 ∨ k = 6))
/-- the same, less what is kept of protocols in lands -/
def mjS (b k : Nat) : Prop := sfS b k ∨ b = 40 ∨ b = 41 ∨ (b = 38 ∧ (k = 7 ∨ k = 8))
theorem miS_no {b k : Nat} (h : 75 ≤ b) : ¬ miS b k := fun q => by
  rcases q with q | q
  · exact sfS_no h q
  · omega
theorem mj_mi {b k : Nat} (q : mjS b k) : miS b k := by
  rcases q with q | q | q | q
  · exact Or.inl q
  · exact Or.inr (Or.inl q)
  · exact Or.inr (Or.inr (Or.inl q))
  · exact Or.inr (Or.inr (Or.inr (Or.inl q)))
theorem mjS_no {b k : Nat} (h : 75 ≤ b) : ¬ mjS b k := fun q => miS_no h (mj_mi q)
theorem miT_no {b k : Nat} (h : 75 ≤ b) : ¬ miT b k := fun q => by
  rcases q with q | q
  · exact sfT_no h q
  · omega
theorem miT_n {b k : Nat} (q1 : b ≠ 35) (q2 : b ≠ 29) (q3 : b ≠ 67) (q4 : b ≠ 38) (q5 : b < 43 ∨ 61 < b) : ¬ miT b k := fun q => by
  rcases q with q | q
  · rcases q with q | q | q
    · unfold slT at q; omega
    · rcases q with q | ⟨j, j1, j2, j3, j4⟩ <;> omega
    · omega
  · omega
theorem tu_mj {b k : Nat} (q : tuS b k) : mjS b k := by
  rcases q with q | q
  · exact Or.inr (Or.inr (Or.inr q))
  · exact Or.inr (Or.inl q)
theorem we_mj {b k : Nat} (q : weS b k) : mjS b k := by unfold weS mnS at q; unfold mjS sfS slS; omega
theorem tr_mj {n b k : Nat} (q : gxS 67 n b k) : mjS b k := by
  rcases q with q | q
  · exact Or.inl (sl_sf q)
  · exact Or.inl (by unfold sfS; omega)
theorem tu_mt {b k : Nat} (q : tuT b k) : miT b k := Or.inr q
theorem we_mt {b k : Nat} (q : mnT 4 b k) : miT b k := Or.inl (Or.inr (Or.inl q))
theorem tr_mt {b k : Nat} (q : stT 67 b k) : miT b k := by
  rcases q with q | q
  · exact Or.inl (Or.inl q)
  · exact Or.inl (Or.inr (Or.inr q))
section MINDO
variable {X : Cx} {d : Nat} {M : Mem} {s : StT} {T : AdT} {Q : Option AV → Mem → Prop}
theorem miT_ok (h : CI M s T) : ∀ b k ci n, miT b k → isK M b ci n → finR ci k = false := fun b k ci n q hk => by
  rcases q with q | q
  · exact sfT_ok h b k ci n q hk
  · exact tuT_ok h.1.1.k13 b k ci n q hk
/-- scratch, the mind and what is kept have changed -/
theorem CI.mi {B : Mem} (h : CI M s T) (hF : Frr miS miT M B) (hm : mvX B s T) (ha : anX B s) : CI B s T ∧ OFr M B := by
  have hT := miT_ok h
  have hE := hF.ext hT
  have hnx : nx B = nx M := by unfold nx; rw [hF.2.2]
  obtain ⟨⟨hTp, hSO⟩, hk, ⟨⟨c6, c7, c8⟩, cl, cp, cg⟩, hld, hpr, hga, ⟨h18, hmc⟩, hmv, han, hse⟩ := h
  have i : ∀ b k, ¬ miS b k → mI B b k = mI M b k := fun b k q => hF.i q
  have r : ∀ b k, ¬ miT b k → mR B b k = mR M b k := fun b k q => hF.r q
  have nS : ∀ b k y, aOw T b = y → y ≠ 0 → ¬ miS b k := fun b k y h1 h2 => miS_no (by have := hse.lo h1 h2; omega)
  have nR : ∀ b k y, aOw T b = y → y ≠ 0 → ¬ miT b k := fun b k y h1 h2 => miT_no (by have := hse.lo h1 h2; omega)
  have n1 : ∀ k, ¬ miS 1 k := fun k w => by unfold miS sfS slS at w; omega
  have n3 : ∀ k, ¬ miS 3 k := fun k w => by unfold miS sfS slS at w; omega
  refine ⟨⟨⟨hTp.ext hE, hSO⟩, ⟨hk.1.ext hE, (i _ _ (by unfold miS sfS slS; omega)).trans hk.2.1, hk.2.2.1, fun k hk2 => ⟨(i _ _ (by unfold miS sfS slS; omega)).trans (hk.2.2.2 k hk2).1, (hk.2.2.2 k hk2).2⟩⟩, ⟨⟨(i _ _ (n1 _)).trans c6, (i _ _ (n1 _)).trans c7, (i _ _ (n1 _)).trans c8⟩, fun l hl => (r _ _ (miT_n (by decide) (by decide) (by decide) (by decide) (by decide))).trans (cl l hl), fun p hp => (r _ _ (miT_n (by decide) (by decide) (by decide) (by decide) (by decide))).trans (cp p hp), fun g hg => (r _ _ (miT_n (by decide) (by decide) (by decide) (by decide) (by decide))).trans (cg g hg)⟩, fun l hl => ?_, fun p hp => ?_, fun g hg => ?_, ⟨(i _ _ (by unfold miS sfS slS; omega)).trans h18, fun k hk2 => ?_⟩, hm, ha, by rw [hnx]; exact hse⟩, ?_⟩
  · obtain ⟨o1, o2, o3⟩ := hse.2.1 l hl
    refine (hld l hl).al hF.al hE (fun b k q1 q2 => nS b k (100 + l) (by rw [← o1 (b - aLa T l) (by omega)]; congr 1; omega) (by omega)) (fun k => nR _ k (100 + l) (o1 9 (by omega)) (by omega)) (fun q hq k => ?_)
    obtain ⟨⟨w1, w2⟩, w3, w4⟩ := o3 q hq
    exact ⟨nS _ k _ w1 (by omega), nS _ k _ w2 (by omega)⟩
  · obtain ⟨o1, o2⟩ := hse.2.2.1 p hp
    exact (hpr p hp).al hF.al hE (fun b k q1 q2 => nS b k (200 + p) (by rw [← o1 (b - aPa T p) (by omega)]; congr 1; omega) (by omega))
  · obtain ⟨o1, o2⟩ := hse.2.2.2.1 g hg
    exact (hga g hg).al hF.al hE (fun b k q1 q2 => nS b k (300 + g) (by rw [← o1 (b - aGa T g) (by omega)]; congr 1; omega) (by omega)) ⟨nR _ _ _ (o1 0 (by omega)) (by omega), nR _ _ _ (o1 0 (by omega)) (by omega)⟩
  · obtain ⟨k1, k2, k3⟩ := hmc k hk2
    exact ⟨(r _ _ (miT_n (by decide) (by decide) (by decide) (by decide) (by decide))).trans k1, k2.ext hE, (i _ _ (by unfold miS sfS slS; omega)).trans k3⟩
  · exact ⟨by omega, fun b k q1 q2 => ⟨i _ _ (miS_no q1), r _ _ (miT_no q1), by unfold mJ; rw [hF.2.2]⟩, hE⟩
theorem aLa_inj {l l' : Nat} (h : CI M s T) (hl : l < sNl s) (hl' : l' < sNl s) (e : aLa T l = aLa T l') : l = l' := by
  have a := h.ow hl (Nat.le_refl _) (by omega)
  have b := h.ow hl' (Nat.le_refl _) (by omega)
  rw [e] at a
  omega
theorem aPa_inj {l l' : Nat} (h : CI M s T) (hl : l < sNp s) (hl' : l' < sNp s) (e : aPa T l = aPa T l') : l = l' := by
  have a := (h.2.2.2.2.2.2.2.2.2.2.2.1 l hl).1 0 (by omega)
  have b := (h.2.2.2.2.2.2.2.2.2.2.2.1 l' hl').1 0 (by omega)
  rw [e] at a
  omega
/-- the mind is turned to a protocol in a land -/
theorem CI.mx {B : Mem} {l p g : Nat} {ot : Bool} (h : CI M s T) (hl : l < sNl s) (hp : p < sNp s) (hF : Frr mjS miT M B) (hX : miX B (aLa T l) (aPa T p) (sLs s l) (sPs s p) g ot) : CI B s T ∧ OFr M B := by
  refine h.mi (hF.mono (fun b k q => mj_mi q) (fun b k q => q)) ⟨⟨(by rw [hX.2.1.1, show nx B = nx M by unfold nx; rw [hF.2.2]]; have := (h.2.2.2.2.2.2.2.2.2.2.1 l hl).2.1; omega), (by rw [hX.2.1.2, show nx B = nx M by unfold nx; rw [hF.2.2]]; have := (h.2.2.2.2.2.2.2.2.2.2.2.1 p hp).2; omega)⟩, fun l' p' ot' g' hl' hp' hg' e1 e2 e3 e4 => ?_⟩ (fun l' p' w hl' hp' hw => ?_)
  · obtain ⟨-, ⟨x1, x2⟩, ⟨x3, x4, x5⟩, -, x6⟩ := hX
    obtain rfl := aLa_inj h hl hl' (x1.symm.trans e1)
    obtain rfl := aPa_inj h hp hp' (x2.symm.trans e2)
    have e5 := x3.symm.trans e3
    have e6 := x4.symm.trans e4
    rw [na_eq (by omega) (by omega)] at e6
    subst e6
    have : ot = ot' := by
      cases ot <;> cases ot' <;> first | rfl | exact absurd e5 (by decide)
    subst this
    exact x6
  · rw [hF.i (fun w => by unfold mjS sfS slS at w; omega)]
    exact h.2.2.2.2.2.2.2.2.1 l' p' w hl' hp' hw
/-- the mind can be set to work -/
theorem CI.mst {l p g : Nat} {ot : Bool} (h : CI M s T) (hl : l < sNl s) (hp : p < sNp s) (hR : laR M (aLa T l) (sLs s l)) (hX : miX M (aLa T l) (aPa T p) (sLs s l) (sPs s p) g ot) : MX M (aLa T l) (aPa T p) (sLs s l) (sPs s p) g ot :=
  ⟨hX, hR, h.2.2.2.2.1 p hp, h.sc, h.1.2.2.2.1.2 p hp, by have := h.lo hl; omega, by have := h.lp hp; omega⟩
theorem kp_tn {l p g : Nat} {ot : Bool} (hd : 1 ≤ d) (h : CI M s T) (hl : l < sNl s) (hp : p < sNp s) (hg : g < 3) (hR : laR M (aLa T l) (sLs s l)) (hq : ∀ B, Frr tuS tuT M B → CI B s T → OFr M B → MX B (aLa T l) (aPa T p) (sLs s l) (sPs s p) g ot → Ext M B → Q none B) : Cl X d 0 0 m_X5_turnTo [vR 38, vR (aLa T l), vR (aPa T p), vI (bI ot), vI (nI g)] M Q := by
  have ll := h.lo hl
  refine kp_turnTo hd h.1.1.k13 h.2.2.2.2.2.2.1.2 hg (h.2.2.2.2.2.2.2.1.2 l p ot g hl hp hg) (fun B hF hX => ?_)
  have hE := hF.ext (tuT_ok h.1.1.k13)
  obtain ⟨c1, c2⟩ := h.mx hl hp (hF.mono (fun b k q => tu_mj q) (fun b k q => tu_mt q)) hX
  exact hq B hF c1 c2 (c1.mst hl hp (hR.rr hF (tuT_ok h.1.1.k13) (fun b k q1 q2 w => by unfold tuS at w; omega)) hX) hE
theorem CI.we {B : Mem} {l p g : Nat} {ot : Bool} (h : CI M s T) (hl : l < sNl s) (hp : p < sNp s) (hF : Frr weS (mnT 4) M B) (hX : MX B (aLa T l) (aPa T p) (sLs s l) (sPs s p) g ot) : CI B s T ∧ OFr M B := h.mx hl hp (hF.mono (fun b k q => we_mj q) (fun b k q => we_mt q)) hX.1
theorem kp10_best {g o : Int32} (hd : 24 ≤ d) (h : CI M s T) (hq : ansQ M s T Q (aBest s g o)) : Cl X d 0 0 m_X10_best [vR 1, vI g, vI o] M Q := by
  unfold aBest at hq
  refine e_X10_best (b_X10_best_0 h.1.1 (by omega) (kp_gameAt h (fun e => ⟨_, rfl, Ext.refl _, fun _ => ?_, fun z => absurd rfl z⟩) (fun k e hk => ⟨_, rfl, Ext.refl _, fun z => absurd z (by have := h.lg hk; omega), fun _ => kp_isGoal ⟨_, rfl, Ext.refl _, fun z => ?_, fun z => ?_⟩⟩)))
  · rw [e] at hq; exact hq M h OFr.refl
  · rw [bI_0] at z
    rw [e] at hq
    dsimp only at hq
    cases ho : inN o 3 with
    | none => rw [ho] at hq; exact hq M h OFr.refl
    | some q => rw [ho] at z; cases z
  · rw [bI_n0] at z
    rw [e] at hq
    dsimp only at hq
    cases ho : inN o 3 with
    | none => rw [ho] at z; cases z
    | some q =>
      rw [ho] at hq
      dsimp only at hq
      obtain ⟨e1, e2⟩ := inN_some (by decide) ho
      have hA := h.2.2.2.2.2.1 k hk
      obtain ⟨⟨a, b⟩, hL, hP, hlg, hK, hmu⟩ := h.gm hk
      have lg := h.lg hk
      refine ⟨hA.1.1, kp_isOver hA.1.1 hA.2.2.2.1 hK.1 ⟨_, rfl, Ext.refl _, fun w => ?_, fun w => ?_⟩⟩
      · have w := of_decide_eq_false (bI_0.mp w)
        rw [if_neg w] at hq
        rw [hA.1.2.1, hA.1.2.2, e1]
        refine kp_tn (ot := false) (by omega) h a b e2 (h.gR hk) (fun B hF c1 c2 hX hE => ⟨rfl, hE, ?_⟩)
        have hAB := c1.2.2.2.2.2.1 k hk
        refine kp_weigh (by omega) hX hAB (by omega) hK (PHK_pl hP _) (fun C hFC hXC hch => ⟨_, rfl, hFC.ext (mnT_ok hX), ?_⟩)
        obtain ⟨f1, f2⟩ := c1.we a b hFC hXC
        rw [hch (by omega), ch_o]
        exact hq C f1 (c2.trans f2)
      · have w : 7 < gPh (gmO s k) := by simpa using bI_n0.mp w
        rw [if_pos w] at hq
        exact hq M h OFr.refl
theorem kp_asGoal {g : Nat} {x : Int} (hg : g < 3) (h : Q (some (vI (zI x))) M) : Cl X d 0 0 m_X10_asGoal [vI (nI g), vI (zI (sgI g x))] M Q := by
  refine e_X10_asGoal (b_X10_asGoal_0 ?_)
  rw [na_eq (by omega) (by decide)]
  unfold sgI
  refine ⟨fun w => ?_, fun w => ?_⟩
  · rw [if_neg w]; exact h
  · rw [if_pos w, zI_neg, Int.neg_neg]; exact h
theorem kp10_value {g o : Int32} (hd : 24 ≤ d) (h : CI M s T) (hq : ansQ M s T Q (aValue s g o)) : Cl X d 0 0 m_X10_value [vR 1, vI g, vI o] M Q := by
  unfold aValue at hq
  refine e_X10_value (b_X10_value_0 h.1.1 (by omega) (kp_gameAt h (fun e => ⟨_, rfl, Ext.refl _, fun _ => ?_, fun z => absurd rfl z⟩) (fun k e hk => ⟨_, rfl, Ext.refl _, fun z => absurd z (by have := h.lg hk; omega), fun _ => kp_isGoal ⟨_, rfl, Ext.refl _, fun z => ?_, fun z => ?_⟩⟩)))
  · rw [e] at hq; exact hq M h OFr.refl
  · rw [bI_n0] at z
    rw [e] at hq
    dsimp only at hq
    cases ho : inN o 3 with
    | none => rw [ho] at z; cases z
    | some q =>
      rw [ho] at hq
      dsimp only at hq
      obtain ⟨e1, e2⟩ := inN_some (by decide) ho
      have hA := h.2.2.2.2.2.1 k hk
      obtain ⟨⟨a, b⟩, hL, hP, hlg, hK, hmu⟩ := h.gm hk
      have lg := h.lg hk
      rw [hA.1.2.1, hA.1.2.2, e1]
      refine ⟨hA.1.1, kp_tn (ot := false) (by omega) h a b e2 (h.gR hk) (fun B hF c1 c2 hX hE => ⟨rfl, hE, ?_⟩)⟩
      have hAB := c1.2.2.2.2.2.1 k hk
      refine kp_weigh (by omega) hX hAB (by omega) hK (PHK_pl hP _) (fun C hFC hXC hch => ⟨_, rfl, hFC.ext (mnT_ok hX), kp_asGoal e2 ⟨_, rfl, Ext.refl _, ?_⟩⟩)
      obtain ⟨f1, f2⟩ := c1.we a b hFC hXC
      exact hq C f1 (c2.trans f2)
  · rw [bI_0] at z
    rw [e] at hq
    dsimp only at hq
    cases ho : inN o 3 with
    | none => rw [ho] at hq; exact hq M h OFr.refl
    | some q => rw [ho] at z; cases z
end MINDO
