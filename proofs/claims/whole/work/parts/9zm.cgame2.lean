/-! THE CLASS: game of the object -/
section GAMEC
variable {X : Cx} {d kc ns : Nat} {M : Mem} {s : StT} {T : AdT} {Q : Option AV → Mem → Prop}
/-- a land in which a game is played -/
theorem ldX.on {la : Nat} {L : LandT} {rm : Option (Nat × Nat)} {pl : Bool} {B : Mem} (h : ldX M la L rm pl) (h14 : mI M la 14 = nI 0) (hF : Fr (fun b k => b = la ∧ k = 15) M B) (h15 : mI B la 15 = nI 1) : ldX B la L rm true := by
  obtain ⟨hC, z1, st, pd, rl⟩ := h
  have i : ∀ b k, (b = la → k ≠ 15) → mI B b k = mI M b k := fun b k q => hF.at (fun w => q w.1 w.2)
  have rr : ∀ b k, mR B b k = mR M b k := fun b k => by unfold mR; rw [hF.2]
  refine ⟨hC.fr hF (fun k hk q => by omega) (fun k => ⟨fun q => by omega, fun q => by omega, fun q => by omega, fun q => by omega⟩) (fun q => by omega), (i _ _ (by omega)).trans z1, ?_, ⟨h15, fun _ => (i _ _ (by omega)).trans h14⟩, ?_⟩
  · rcases st with ⟨a, b⟩ | a
    · exact Or.inl ⟨(i _ _ (by omega)).trans a, fun x hx => ⟨(i _ _ (by omega)).trans (b x hx).1, (i _ _ (by omega)).trans (b x hx).2.1, (i _ _ (by omega)).trans (b x hx).2.2⟩⟩
    · rw [h14] at a; exact absurd a (by decide)
  · cases rm with
    | none =>
      obtain ⟨a, b⟩ := rl
      exact ⟨by rw [rr]; exact hF.ext.1 _ _ _ a, (i _ _ (by omega)).trans b⟩
    | some q =>
      obtain ⟨a, ⟨b1, b2⟩, ⟨c1, c2⟩, dd⟩ := rl
      refine ⟨a, ⟨(rr _ _).trans b1, (rr _ _).trans b2⟩, ⟨hF.ext.1 _ _ _ c1, hF.ext.1 _ _ _ c2⟩, ?_⟩
      rcases dd with dd | ⟨d1, d2⟩
      · exact Or.inl ((i _ _ (by omega)).trans dd)
      · exact Or.inr ⟨(i _ _ (by omega)).trans d1, fun w => (d2 h14).al (hF.rr (T := fun _ _ => False)).al (fun q => by omega) (fun k w => by have := a.2.1; omega) (fun k w => by have := a.2.2; omega) id id⟩
theorem kp10_game {l p : Int32} (hd : 14 ≤ d) (h : CI M s T) (hkc : (inN l (sNl s)).isSome = true → (inN p (sNp s)).isSome = true → sNg s < 8 → 5 ≤ kc ∧ 44 ≤ ns)
    (hq : ∀ B T', (T' = T ∨ (sNg s < 8 ∧ (inN l (sNl s)).isSome = true ∧ (inN p (sNp s)).isSome = true ∧ ∃ n, T' = growG T (sNg s) n)) → CI B (gameS s l p) T' → OFr M B → Q (some (vI (aGame s l p))) B) : Cl X d kc ns m_X10_game [vR 1, vI l, vI p] M Q := by
  have h8 := h.1.2.2.2.2.1
  unfold gameS aGame at hq
  refine e_X10_game (b_X10_game_0 h.1.1 (by omega) (kp_readyLand (by omega) h (fun e => ⟨_, rfl, Ext.refl _, ?_⟩) (fun k M1 e hk c1 c2 hR h14 => ⟨_, rfl, c2.2.2, ?_⟩)))
  · rw [e] at hq
    dsimp only at hq
    exact kp_protocolAt h (fun _ => ⟨_, rfl, Ext.refl _, fun _ => hq M T (Or.inl rfl) h OFr.refl, fun z => absurd rfl z⟩) (fun j _ hj => ⟨_, rfl, Ext.refl _, fun _ => hq M T (Or.inl rfl) h OFr.refl, fun z => absurd rfl z⟩)
  have lk := h.lo hk
  refine kp_protocolAt c1 (fun e2 => ⟨_, rfl, Ext.refl _, fun z => absurd z (by omega), fun _ => ⟨fun _ => ?_, fun z => absurd rfl z⟩⟩) (fun j e2 hj => ⟨_, rfl, Ext.refl _, fun z => absurd z (by omega), fun _ => ⟨fun z => absurd z (by have := h.lp hj; omega), fun _ => ?_⟩⟩)
  · rw [e, e2] at hq; exact hq M1 T (Or.inl rfl) c1 c2
  have hkc := hkc (by rw [e]; rfl) (by rw [e2]; rfl)
  rw [e, e2] at hq
  dsimp only at hq
  rw [c1.2.2.1.1.2.2, na_lt (by omega) (by decide)]
  refine ⟨fun q => ?_, fun q => ?_⟩
  · rw [if_neg (by omega), if_neg (by omega)] at hq
    obtain ⟨k3, n10⟩ := hkc q
    have lj := h.lp hj
    have hse := c1.2.2.2.2.2.2.2.2.2
    have l90 : 105 ≤ nx M1 := hse.2.2.2.2
    have olk := (hse.2.1 k hk).2.1
    have opj := (hse.2.2.1 j hj).2
    refine ⟨by omega, by omega, fun M2 e3 => ⟨kc - 1, ns - 16, Nat.le_refl _, Nat.le_refl _, ?_⟩⟩
    have F2 : Fal (fun _ _ => False) (fun _ _ => False) M1 M2 := by rw [e3]; exact Fal.nw
    have E2 : Ext M1 M2 := F2.ext (fun _ _ _ _ q => q.elim)
    have x2 : nx M2 = nx M1 + 1 := by rw [e3, nx_nw]
    have ha : isK M2 (nx M1) 1 16 := by rw [e3]; exact isK_nw
    refine kp_gameInit (by omega) (by omega) (by omega) ha x2 (by omega) (c1.1.1.k11.ext E2) (c1.1.1.k12.ext E2) (fun M4 hF4 hn4 hG4 => ⟨rfl, hG4, ?_⟩)
    have F14 := F2.behind hF4 (fun b k hb w => by
      have w : b = nx M1 := w
      omega) (fun b k hb w => by
      have w : b = nx M1 := w
      omega)
    have E14 : Ext M1 M4 := F14.ext (fun _ _ _ _ q => q.elim)
    have hR4 : laR M4 (aLa T k) (sLs s k) := hR.al F14 (fun _ _ _ _ q => q.elim) (fun _ _ _ _ => id)
    have hP4 := (c1.2.2.2.2.1 j hj).al F14 E14 (fun _ _ _ _ => id)
    have hS4 : scX M4 := ⟨c1.sc.1.ext E14, (F14.2.1 33 0 (by omega) id).trans c1.sc.2.1, c1.sc.2.2.ext E14⟩
    refine kp_start (by omega) (by omega) (by omega) (Or.inr (by omega)) hR4 hS4 hP4 (c1.1.2.2.2.1.2 j hj) ⟨by omega, Or.inl (by omega)⟩ hG4 (fun M5 hF5 hA5 => ?_)
    have E45 := hF5.ext (stT_ok hS4 hG4)
    refine ⟨rfl, E45, hR4.1.1.ext E45, fun M6 e6 => ?_⟩
    have t5 : TpS M5 := (c1.1.1.ext E14).ext E45
    have f56 : Fr (fun b k' => b = aLa T k ∧ k' = 15) M5 M6 := by rw [e6]; exact Fr.sI ⟨rfl, rfl⟩
    have t6 := t5.ext f56.ext
    have o5 : ∀ b k', b < 105 → ¬ slS b k' → mI M5 b k' = mI M1 b k' := fun b k' hb q => (hF5.i (fun w => by
      rcases w with w | w
      · exact q w
      · omega)).trans (F14.2.1 b k' (by omega) id)
    have u5 : ∀ b k', b < 105 → ¬ slT b k' → mR M5 b k' = mR M1 b k' := fun b k' hb q => (hF5.r (fun w => by
      rcases w with w | w
      · exact q w
      · omega)).trans (F14.2.2.1 b k' (by omega) id)
    have g6 : mI M6 1 8 = nI (sNg s) := by
      rw [e6, mI_sI_a (by omega), o5 1 8 (by decide) (by unfold slS; omega)]
      exact c1.2.2.1.1.2.2
    rw [g6, na_ix (by omega)]
    refine ⟨t6, na_in (by omega) (by decide), fun M7 e7 M8 e8 => ?_⟩
    have c8 : mI M8 1 8 = nI (sNg s + 1) := by rw [e8, mI_sI_eq, e7, mI_sR, g6, nI_add]
    rw [c8, na_sub (by omega), Nat.add_sub_cancel]
    have n5 : nx M5 = nx M1 + 5 := by
      have : nx M5 = nx M4 := by unfold nx; rw [hF5.2.2]
      rw [this, hn4]
    have F15 : Fal sfS sfT M1 M5 := ⟨by omega, fun b k' hb w => (hF5.i (fun q => by
      rcases q with q | q
      · exact w (sl_sf q)
      · omega)).trans (F14.2.1 b k' hb id), fun b k' hb w => (hF5.r (fun q => by
      rcases q with q | q
      · exact w (Or.inl q)
      · omega)).trans (F14.2.2.1 b k' hb id), fun b k' hb => (show mJ M5 b k' = mJ M4 b k' by unfold mJ; rw [hF5.2.2]).trans (F14.2.2.2.1 b k' hb), fun b k' n q => hF5.k (F14.2.2.2.2 _ _ _ q)⟩
    have E15 := E14.trans E45
    have f58 : Frr (grS T (100 + k)) grT M5 M8 := by
      have a1 : Frr (grS T (100 + k)) grT M5 M6 := by rw [e6]; exact (Fr.sI (S := grS T (100 + k)) (Or.inr (Or.inr (Or.inr (c1.ow hk (Nat.le_refl _) (by omega)))))).rr
      have a2 : Frr (grS T (100 + k)) grT M6 M7 := by rw [e7]; exact Frr.sR (Or.inr (Or.inr (Or.inr rfl)))
      have a3 : Frr (grS T (100 + k)) grT M7 M8 := by rw [e8]; exact (Fr.sI (S := grS T (100 + k)) (Or.inr (Or.inr (Or.inl rfl)))).rr
      exact (a1.trans a2).trans a3
    have F18 := (F15.mono (S' := grS T (100 + k)) (T' := grT) (fun b k' q => Or.inl q) (fun b k' q => Or.inl q)).trans f58.al
    have E18 := F18.ext (grT_ok c1)
    have f68 : Frr (fun b _ => b = 1) (fun b _ => b = 13) M6 M8 := by
      have a2 : Frr (fun b _ => b = 1) (fun b _ => b = 13) M6 M7 := by rw [e7]; exact Frr.sR rfl
      have a3 : Frr (fun b _ => b = 1) (fun b _ => b = 13) M7 M8 := by rw [e8]; exact (Fr.sI (S := fun b _ => b = 1) rfl).rr
      exact a2.trans a3
    have E68 : Ext M6 M8 := f68.ext (fun b k' ci n q hk => by
      have q : b = 13 := q
      subst q
      obtain ⟨e1, -⟩ := isK_fun t6.2.2.2.2.2.2.1.2 hk
      subst e1; rfl)
    have old := c1.2.2.2.1 k hk
    have l5 := old.al F15 E15 (fun b k' q1 q2 => sfS_no (by omega)) (fun k' => sfT_no (by omega)) (fun q hq k' => by
      obtain ⟨-, w3, -⟩ := (hse.2.1 k hk).2.2 q hq
      exact ⟨sfS_no (by omega), sfS_no (by omega)⟩)
    have s5 : mI M5 (aLa T k) 14 = nI 0 := (F15.2.1 _ _ (by omega) (sfS_no (by omega))).trans h14
    have l6 := l5.on s5 f56 (by rw [e6, mI_sI_eq])
    have l8 := l6.al f68.al E68 (fun b k' q1 q2 w => by
      have w : b = 1 := w
      omega) (fun k' w => by
      have w : aLa T k + 9 = 13 := w
      omega) (fun q hq k' => by
      obtain ⟨-, w3, -⟩ := (hse.2.1 k hk).2.2 q hq
      exact ⟨fun w => by
        have w : q.1 = 1 := w
        omega, fun w => by
        have w : q.2 = 1 := w
        omega⟩)
    have hA6 := hA5.al (f56.rr (T := fun _ _ => False)).al f56.ext (fun b k' q1 q2 w => by omega) ⟨id, id⟩
    have hA8 := hA6.al f68.al E68 (fun b k' q1 q2 w => by
      have w : b = 1 := w
      omega) ⟨fun w => by
      have w : nx M1 = 13 := w
      omega, fun w => by
      have w : nx M1 = 13 := w
      omega⟩
    have i8 : ∀ b k', b < 105 → b ≠ 1 → ¬ slS b k' → mI M8 b k' = mI M1 b k' := fun b k' hb q1 q2 => (f68.i q1).trans ((f56.at (fun w => by omega)).trans (o5 b k' hb q2))
    have j8 : ∀ k', k' ≠ 8 → mI M8 1 k' = mI M1 1 k' := fun k' q => by
      rw [e8, mI_sI_i q, e7, mI_sR, f56.at (fun w => by omega), o5 1 k' (by decide) (by unfold slS; omega)]
    have r8 : ∀ b k', b < 105 → ¬ slT b k' → mR M8 b k' = if b = 13 ∧ k' = sNg s then nx M1 else mR M1 b k' := fun b k' hb q => by
      rw [e8, mR_sI, e7, mR_sR, e6, mR_sI, u5 b k' hb q]
    obtain ⟨r1, r2⟩ := c1.ng (k := k) (j := j) q hk hj F18 E18 ⟨c1.2.1.1.ext E18, (i8 _ _ (by decide) (by decide) (by unfold slS; omega)).trans c1.2.1.2.1, c1.2.1.2.2.1, fun i hi => ⟨(i8 _ _ (by decide) (by decide) (by unfold slS; omega)).trans (c1.2.1.2.2.2 i hi).1, (c1.2.1.2.2.2 i hi).2⟩⟩ ⟨(j8 6 (by decide)).trans c1.2.2.1.1.1, (j8 7 (by decide)).trans c1.2.2.1.1.2.1, c8⟩
      (fun k' => by rw [r8 _ _ (by decide) (by unfold slT; omega), if_neg (fun w => absurd w.1 (by decide))])
      (fun k' => by rw [r8 _ _ (by decide) (by unfold slT; omega), if_neg (fun w => absurd w.1 (by decide))])
      (fun k' => by
        rw [r8 _ _ (by decide) (by unfold slT; omega)]
        by_cases w : k' = sNg s
        · rw [if_pos ⟨rfl, w⟩, if_pos w]
        · rw [if_neg (fun w2 => w w2.2), if_neg w])
      l8 hA8 (by
        have : nx M8 = nx M5 := by unfold nx; rw [f58.2.2]
        rw [this, n5])
    exact hq M8 _ (Or.inr ⟨q, rfl, rfl, _, rfl⟩) r1 (c2.trans r2)
  · rw [if_pos (by omega), if_pos (by omega)] at hq
    exact hq M1 T (Or.inl rfl) c1 c2
end GAMEC
