/-! THE CLASS: votes are told anew -/
def vtS (la a b k : Nat) : Prop := b = la + 2 ∨ (b = la ∧ k = 14) ∨ (b = 72 ∧ a * 8 * 5 ≤ k ∧ k < a * 8 * 5 + 40) ∨ (b = 38 ∧ k = 8)
section VOTE
variable {X : Cx} {d : Nat} {M : Mem} {s : StT} {T : AdT} {Q : Option AV → Mem → Prop}
theorem CI.vt {a b c v : Nat} {B : Mem} (h : CI M s T) (ha : a < sNl s) (hg : gOn s a = false) (hb : b < (sLs s a).1) (hc : c < 3) (hv : v ≤ 99) (hF : Frr (vtS (aLa T a) a) tuT M B) (hvo : ∀ q j, q < 9 → j < 3 → mI B (aLa T a + 2) (3 * q + j) = if q = b ∧ j = c then nI v else mI M (aLa T a + 2) (3 * q + j)) (h14 : mI B (aLa T a) 14 = nI 1) (h38 : mI B 38 8 = (-1)) (h235 : mR B 38 5 = mR M 38 5) (h236 : mR B 38 6 = mR M 38 6) (h57 : ∀ i, a * 8 * 5 ≤ i → i < a * 8 * 5 + 40 → mI B 72 i = (-1000)) :
    CI B (s.1, (sNl s, fun i => if i = a then vtL2 (sLs s i) b c v else sLs s i), s.2.2) T ∧ OFr M B := by
  have hT := tuT_ok h.1.1.k13
  have hE := hF.ext hT
  have hnx : nx B = nx M := by unfold nx; rw [hF.2.2]
  have la := h.lo ha
  have h6 := h.1.2.2.1.1
  have ow := fun b q1 q2 => h.ow (b := b) ha q1 q2
  have no57 : ∀ b k, b < 72 → b ≠ 38 → ¬ vtS (aLa T a) a b k := fun b k q q2 w => by unfold vtS at w; omega
  obtain ⟨⟨hTp, hSO⟩, hk, ⟨⟨c6, c7, c8⟩, cl, cp, cg⟩, hld, hpr, hga, ⟨h18, hmc⟩, hmv, han, hse⟩ := h
  have i : ∀ b k, b < 72 → b ≠ 38 → mI B b k = mI M b k := fun b k q q2 => hF.i (no57 b k q q2)
  have r : ∀ b k, b ≠ 38 → mR B b k = mR M b k := fun b k q => hF.r (fun w => q w.1)
  have nS : ∀ b k y, aOw T b = y → y ≠ 0 → y ≠ 100 + a → ¬ vtS (aLa T a) a b k := fun b k y h1 h2 h3 w => by
    have := hse.lo h1 h2
    unfold vtS at w
    rcases w with w | w | w
    · have := ow b (by omega) (by omega); omega
    · have := ow b (by omega) (by omega); omega
    · omega
  have nR : ∀ b k y, aOw T b = y → y ≠ 0 → ¬ tuT b k := fun b k y h1 h2 w => by
    have := hse.lo h1 h2
    unfold tuT at w; omega
  have gne : ∀ g, g < sNg s → (sGs s g).1 ≠ a := fun g hgg z => by
    have : gOn s a = true := by
      unfold gOn
      rw [List.any_eq_true]
      exact ⟨g, List.mem_range.mpr hgg, decide_eq_true z⟩
    rw [hg] at this; cases this
  have eL : ∀ l', l' ≠ a → (fun i => if i = a then vtL2 (sLs s i) b c v else sLs s i) l' = sLs s l' := fun l' z => if_neg z
  refine ⟨⟨⟨hTp.ext hE, hSO.1, ⟨h6, fun l hl => ?_⟩, hSO.2.2.1, hSO.2.2.2.1, fun g hgg => ?_⟩, ⟨hk.1.ext hE, (i _ _ (by decide) (by decide)).trans hk.2.1, hk.2.2.1, fun k hk2 => ⟨(i _ _ (by decide) (by decide)).trans (hk.2.2.2 k hk2).1, (hk.2.2.2 k hk2).2⟩⟩, ⟨⟨(i _ _ (by decide) (by decide)).trans c6, (i _ _ (by decide) (by decide)).trans c7, (i _ _ (by decide) (by decide)).trans c8⟩, fun l hl => (r _ _ (by decide)).trans (cl l hl), fun p hp => (r _ _ (by decide)).trans (cp p hp), fun g hg => (r _ _ (by decide)).trans (cg g hg)⟩, fun l hl => ?_, fun p hp => ?_, fun g hgg => ?_, ⟨(i _ _ (by decide) (by decide)).trans h18, fun k hk2 => ?_⟩, ⟨⟨(by rw [h235, hnx]; exact hmv.1.1), (by rw [h236, hnx]; exact hmv.1.2)⟩, fun l p ot g hl hp hg e1 e2 e3 e4 => ?_⟩, fun l p w hl hp hw => ?_, by rw [hnx]; exact hse⟩, ?_⟩
  · show LdOK (if l = a then vtL2 (sLs s l) b c v else sLs s l)
    by_cases z : l = a
    · subst z
      rw [if_pos rfl]; exact vtL2_ok (hSO.2.1.2 l hl) hb hv
    · rw [if_neg z]; exact hSO.2.1.2 l hl
  · obtain ⟨s1, s2, s3⟩ := hSO.2.2.2.2 g hgg
    refine ⟨s1, s2, ?_⟩
    show lgM (if (sGs s g).1 = a then vtL2 (sLs s (sGs s g).1) b c v else sLs s (sGs s g).1) (sPs s (sGs s g).2.1) (sGs s g).2.2
    rw [if_neg (gne g hgg)]; exact s3
  · have hl : l < sNl s := hl
    show ldX B (aLa T l) (if l = a then vtL2 (sLs s l) b c v else sLs s l) (aRm T l) (gOn s l)
    by_cases z : l = a
    · subst z
      rw [if_pos rfl, hg]
      obtain ⟨⟨g1, ⟨g2, g3, g4, g5⟩, ⟨k0, k1, k2, k3, k4⟩, g6, g7, g8, g9⟩, z1, st, pd, rl⟩ := hld l hl
      have mn : ∀ b, mN B b = mN M b := fun b => by unfold mN; rw [hF.2.2]
      have j : ∀ b k, aLa T l ≤ b → b ≤ aLa T l + 11 → b ≠ aLa T l + 2 → (b = aLa T l → k ≠ 14) → mI B b k = mI M b k := fun b k q1 q2 q3 q4 => hF.i (fun w => by unfold vtS at w; omega)
      refine ⟨⟨g1.ext hE, ⟨(mn _).trans g2, (mn _).trans g3, (mn _).trans g4, (mn _).trans g5⟩, ⟨(j _ _ (by omega) (by omega) (by omega) (by omega)).trans k0, (j _ _ (by omega) (by omega) (by omega) (by omega)).trans k1, (j _ _ (by omega) (by omega) (by omega) (by omega)).trans k2, (j _ _ (by omega) (by omega) (by omega) (by omega)).trans k3, (j _ _ (by omega) (by omega) (by omega) (by omega)).trans k4⟩, fun q hq k hk3 => ?_, fun q hq => ⟨(j _ _ (by omega) (by omega) (by omega) (by omega)).trans (g7 q hq).1, (j _ _ (by omega) (by omega) (by omega) (by omega)).trans (g7 q hq).2⟩, fun x hx => (j _ _ (by omega) (by omega) (by omega) (by omega)).trans (g8 x hx), (j _ _ (by omega) (by omega) (by omega) (by omega)).trans g9⟩, (j _ _ (by omega) (by omega) (by omega) (by omega)).trans z1, Or.inr h14, ⟨(j _ _ (by omega) (by omega) (by omega) (by omega)).trans (by rw [pd.1, hg]), fun w => by cases w⟩, ?_⟩
      · rw [hvo q k hq hk3, g6 q hq k hk3]
        show _ = nI (if q = b ∧ k = c then v else LdV (sLs s l) q k)
        split <;> rfl
      · have e9 : ∀ k, mR B (aLa T l + 9) k = mR M (aLa T l + 9) k := fun k => r _ _ (by omega)
        have e3 := j (aLa T l + 9) 3 (by omega) (by omega) (by omega) (by omega)
        cases hr : aRm T l with
        | none =>
          rw [hr] at rl
          obtain ⟨w1, w2⟩ := rl
          exact ⟨by rw [e9]; exact hE.1 _ _ _ w1, e3.trans w2⟩
        | some q =>
          rw [hr] at rl
          obtain ⟨w1, ⟨w2, w3⟩, ⟨w4, w5⟩, w6⟩ := rl
          refine ⟨w1, ⟨(e9 _).trans w2, (e9 _).trans w3⟩, ⟨hE.1 _ _ _ w4, hE.1 _ _ _ w5⟩, ?_⟩
          rcases w6 with w6 | ⟨w6, -⟩
          · exact Or.inl (e3.trans w6)
          · exact Or.inr ⟨e3.trans w6, fun q => absurd (h14.symm.trans q) (by decide)⟩
    · rw [if_neg z]
      obtain ⟨o1, o2, o3⟩ := hse.2.1 l hl
      refine (hld l hl).al hF.al hE (fun b k q1 q2 => nS b k (100 + l) (by rw [← o1 (b - aLa T l) (by omega)]; congr 1; omega) (by omega) (by omega)) (fun k => nR _ k (100 + l) (o1 9 (by omega)) (by omega)) (fun q hq k => ?_)
      obtain ⟨⟨w1, w2⟩, w3, w4⟩ := o3 q hq
      exact ⟨nS _ k _ w1 (by omega) (by omega), nS _ k _ w2 (by omega) (by omega)⟩
  · obtain ⟨o1, o2⟩ := hse.2.2.1 p hp
    exact (hpr p hp).al hF.al hE (fun b k q1 q2 => nS b k (200 + p) (by rw [← o1 (b - aPa T p) (by omega)]; congr 1; omega) (by omega) (by omega))
  · obtain ⟨o1, o2⟩ := hse.2.2.2.1 g hgg
    have := (hga g hgg).al hF.al hE (fun b k q1 q2 => nS b k (300 + g) (by rw [← o1 (b - aGa T g) (by omega)]; congr 1; omega) (by omega) (by omega)) ⟨nR _ _ _ (o1 0 (by omega)) (by omega), nR _ _ _ (o1 0 (by omega)) (by omega)⟩
    unfold gmO at this ⊢
    show gaX B (aGa T g) (aLa T (sGs s g).1) (aPa T (sGs s g).2.1) (if (sGs s g).1 = a then vtL2 (sLs s (sGs s g).1) b c v else sLs s (sGs s g).1) (plG (if (sGs s g).1 = a then vtL2 (sLs s (sGs s g).1) b c v else sLs s (sGs s g).1) (sPs s (sGs s g).2.1) (sGs s g).2.2) (sGs s g).2.2
    rw [if_neg (gne g hgg)]; exact this
  · obtain ⟨k1, k2, k3⟩ := hmc k hk2
    exact ⟨(r _ _ (by decide)).trans k1, k2.ext hE, (i _ _ (by omega) (by omega)).trans k3⟩
  · have hl : l < sNl s := hl
    rw [h38] at e4
    exact absurd e4.symm (na_m1 (by omega))
  · by_cases z : l = a
    · subst z
      exact Or.inl (h57 _ (by omega) (by omega))
    · have e : mI B 72 (5 * (8 * l + p) + w) = mI M 72 (5 * (8 * l + p) + w) := hF.i (fun q => by unfold vtS at q; omega)
      rw [e]
      rcases han l p w hl hp hw with q | ⟨q1, q2, q3⟩
      · exact Or.inl q
      · refine Or.inr ⟨q1, q2, ?_⟩
        show mI M 72 (5 * (8 * l + p) + w) = (if w < 3 then zI (sgI w (vnF (if l = a then vtL2 (sLs s l) b c v else sLs s l) (sPs s p) w false (stG (if l = a then vtL2 (sLs s l) b c v else sLs s l) (sPs s p)))) else if w = 3 then zI (vnF (if l = a then vtL2 (sLs s l) b c v else sLs s l) (sPs s p) 0 true (stG (if l = a then vtL2 (sLs s l) b c v else sLs s l) (sPs s p))) else edI (if l = a then vtL2 (sLs s l) b c v else sLs s l) (sPs s p))
        rw [if_neg z]; exact q3
  · exact ⟨by omega, fun b k q1 q2 => ⟨hF.i (fun w => by unfold vtS at w; omega), r _ _ (by omega), by unfold mJ; rw [hF.2.2]⟩, hE⟩
theorem kp10_vote {l p k v : Int32} (hd : 3 ≤ d) (h : CI M s T) (hq : ∀ B, CI B (voteS s l p k v) T → OFr M B → Q (some (vI (aVote s l p k v))) B) : Cl X d 0 0 m_X10_vote [vR 1, vI l, vI p, vI k, vI v] M Q := by
  unfold voteS aVote at hq
  have h6 := h.1.2.2.1.1
  have no : vtN s l p k v = none → Q (some (vI (nI 0))) M := fun hn => by
    rw [hn] at hq; exact hq M h OFr.refl
  refine e_X10_vote (b_X10_vote_0 h.1.1 (by omega) (kp_landAt h (fun e => ⟨_, rfl, Ext.refl _, fun _ => no (by unfold vtN; rw [e]), fun z => absurd rfl z⟩) (fun a e ha => ⟨_, rfl, Ext.refl _, fun z => absurd z (by have := h.lo ha; omega), fun _ => ?_⟩)))
  have hld := h.2.2.2.1 a ha
  have hL := h.1.2.2.1.2 a ha
  have la := h.lo ha
  have hn9 := hL.1.2
  obtain ⟨a1, -⟩ := inN_some (by omega) e
  have np : inN p (sLs s a).1 = none → vtN s l p k v = none := fun w => by
    unfold vtN; rw [e]; dsimp only; rw [w]
  have nk : inN k 3 = none → vtN s l p k v = none := fun w => by
    unfold vtN; rw [e]; dsimp only
    cases inN p (sLs s a).1 with
    | none => rfl
    | some b => dsimp only; rw [w]
  have nv : inN v 100 = none → vtN s l p k v = none := fun w => by
    unfold vtN; rw [e]; dsimp only
    cases inN p (sLs s a).1 with
    | none => rfl
    | some b =>
      dsimp only
      cases inN k 3 with
      | none => rfl
      | some c => dsimp only; rw [w]
  rw [hld.2.2.2.1.1, hld.1.2.2.1.1]
  refine ⟨hld.1.1, fun z => ?_, fun z => ?_⟩
  · have z := bI_n0.mp z
    refine no ?_
    unfold vtN; rw [e]; dsimp only
    cases inN p (sLs s a).1 with
    | none => rfl
    | some b =>
      dsimp only
      cases inN k 3 with
      | none => rfl
      | some c =>
        dsimp only
        cases inN v 100 with
        | none => rfl
        | some dd => dsimp only; rw [if_pos z]
  have z := bI_0.mp z
  refine ⟨fun q => ?_, fun q0 => ⟨fun q1 => kp_isParty ⟨_, rfl, Ext.refl _, fun y => ?_, fun y => ⟨fun q => ?_, fun q2 => ⟨fun q3 => ?_, fun q => ?_⟩⟩⟩, fun q => ?_⟩⟩
  · rw [toI_lt0] at q
    exact no (np (by unfold inN; rw [if_neg (by omega)]))
  · have y := bI_0.mp y
    refine no (nk ?_)
    cases hk : inN k 3 with
    | none => rfl
    | some c => rw [hk] at y; cases y
  · rw [toI_lt0] at q
    exact no (nv (by unfold inN; rw [if_neg (by omega)]))
  · rw [toI_lt0] at q0 q2
    rw [toI_lt (by omega)] at q1
    rw [leI_n (n := 99) (by decide)] at q3
    have y := bI_n0.mp y
    have e3 : inN p (sLs s a).1 = some p.toInt.toNat := by unfold inN; rw [if_pos (by omega)]
    have e5 : inN v 100 = some v.toInt.toNat := by unfold inN; rw [if_pos (by omega)]
    obtain ⟨b1, b2⟩ := inN_some (by omega) e3
    obtain ⟨d1, d2⟩ := inN_some (by decide) e5
    cases e4 : inN k 3 with
    | none => rw [e4] at y; cases y
    | some c =>
      obtain ⟨c1, c2⟩ := inN_some (by decide) e4
      have hv : vtN s l p k v = some (a, p.toInt.toNat, c, v.toInt.toNat) := by
        unfold vtN; rw [e]; dsimp only; rw [e3]; dsimp only; rw [e4]; dsimp only; rw [e5]; dsimp only
        rw [if_neg (by rw [z]; decide)]
      rw [hv] at hq
      dsimp only at hq
      clear hv np nk nv no
      generalize p.toInt.toNat = b at b1 b2 hq
      generalize v.toInt.toNat = vv at d1 d2 hq
      rw [b1, c1, d1, a1, pk_mul, nI_add]
      refine ⟨na_in (by omega) (by decide), fun M3 e3 M4 e4 => ?_⟩
      rw [na_ix (by omega)] at e3
      have f4 : Frr (vtS (aLa T a) a) tuT M M4 := by
        rw [e4, e3]
        exact (Fr.sI (S := vtS (aLa T a) a) (Or.inl rfl)).rr.trans (Fr.sI (S := vtS (aLa T a) a) (Or.inr (Or.inl ⟨rfl, rfl⟩))).rr
      have hE4 := f4.ext (tuT_ok h.1.1.k13)
      have hM4 := h.1.1.k13.ext hE4
      refine e_X5_forget (b_X5_forget_0 hM4 (fun M5 e5 => ?_))
      have f5 : Frr (vtS (aLa T a) a) tuT M4 M5 := by rw [e5]; exact (Fr.sI (S := vtS (aLa T a) a) (Or.inr (Or.inr (Or.inr ⟨rfl, rfl⟩)))).rr
      refine ⟨rfl, f5.ext (tuT_ok hM4), fun x3 e6 => ?_⟩
      rw [pk_mul, pk_mul] at e6
      rw [e6, nI_add]
      have f45 := f4.trans f5
      have hE5 := f45.ext (tuT_ok h.1.1.k13)
      refine kp_fillR (hE5.1 _ _ _ h.1.1.k15) (by decide) (by omega) (by omega) (by omega) (fun B hF hB => ⟨rfl, hF.ext, ?_⟩)
      have f6 := f45.trans ((hF.mono (T := vtS (aLa T a) a) (fun b k q => Or.inr (Or.inr (Or.inl q)))).rr)
      have g1 : ∀ q j, q < 9 → j < 3 → mI B (aLa T a + 2) (3 * q + j) = if q = b ∧ j = c then nI vv else mI M (aLa T a + 2) (3 * q + j) := fun q j hq9 hj => by
        rw [hF.at (by omega), e5, mI_sI_a (by omega), e4, mI_sI_a (by omega), e3, mI_sI]
        by_cases w : q = b ∧ j = c
        · rw [if_pos w, if_pos ⟨rfl, by omega⟩]
        · rw [if_neg w, if_neg (fun w2 => w (by omega))]
      have g2 : mI B (aLa T a) 14 = nI 1 := by
        rw [hF.at (by omega), e5, mI_sI_a (by omega), e4, mI_sI_eq]
      have g3 : mI B 38 8 = (-1) := by
        rw [hF.at (by omega), e5, mI_sI_eq]
      have g35 : mR B 38 5 = mR M 38 5 := by
        have er : mR B 38 5 = mR M5 38 5 := by unfold mR; rw [hF.2]
        rw [er, e5, e4, e3, mR_sI, mR_sI, mR_sI]
      have g4 : mR B 38 6 = mR M 38 6 := by
        have er : mR B 38 6 = mR M5 38 6 := by unfold mR; rw [hF.2]
        rw [er, e5, e4, e3, mR_sI, mR_sI, mR_sI]
      obtain ⟨r1, r2⟩ := h.vt (b := b) (c := c) (v := vv) ha z b2 c2 (by omega) f6 g1 g2 g3 g35 g4 hB
      exact hq B r1 r2
  · rw [leI_n (n := 99) (by decide)] at q
    exact no (nv (by unfold inN; rw [if_neg (by omega)]))
  · rw [toI_lt (by omega)] at q
    exact no (np (by unfold inN; rw [if_neg (by omega)]))
end VOTE
