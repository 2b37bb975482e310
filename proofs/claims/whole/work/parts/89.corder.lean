/-! THE CLASS: parts in the order of their lowest parishes -/
def PM (f g : Nat → Nat) (m : Nat) : Prop := ∃ σ τ : Nat → Nat, (∀ i, i < m → σ i < m ∧ g i = f (σ i) ∧ τ (σ i) = i) ∧ ∀ j, j < m → τ j < m ∧ σ (τ j) = j
theorem PM.refl {f : Nat → Nat} {m : Nat} : PM f f m := ⟨fun i => i, fun i => i, fun i hi => ⟨hi, rfl, rfl⟩, fun i hi => ⟨hi, rfl⟩⟩
theorem PM.trans {f g h : Nat → Nat} {m : Nat} (h1 : PM f g m) (h2 : PM g h m) : PM f h m := by
  obtain ⟨s1, t1, a1, b1⟩ := h1
  obtain ⟨s2, t2, a2, b2⟩ := h2
  refine ⟨fun i => s1 (s2 i), fun j => t2 (t1 j), fun i hi => ?_, fun j hj => ?_⟩
  · obtain ⟨x1, x2, x3⟩ := a2 i hi
    obtain ⟨y1, y2, y3⟩ := a1 _ x1
    exact ⟨y1, x2.trans y2, by dsimp only; rw [y3, x3]⟩
  · obtain ⟨x1, x2⟩ := b1 j hj
    obtain ⟨y1, y2⟩ := b2 _ x1
    exact ⟨y1, by dsimp only; rw [y2, x2]⟩
theorem PM.get {f g : Nat → Nat} {m i : Nat} (h : PM f g m) (hi : i < m) : ∃ j, j < m ∧ g i = f j := by
  obtain ⟨s, t, a, b⟩ := h
  exact ⟨s i, (a i hi).1, (a i hi).2.1⟩
theorem PM.back {f g : Nat → Nat} {m j : Nat} (h : PM f g m) (hj : j < m) : ∃ i, i < m ∧ g i = f j := by
  obtain ⟨s, t, a, b⟩ := h
  obtain ⟨b1, b2⟩ := b j hj
  exact ⟨t j, b1, by rw [(a _ b1).2.1, b2]⟩
/-- v put in at t, those from t to i being moved by one -/
def insF (h : Nat → Nat) (i t v j : Nat) : Nat := if j < t then h j else if j = t then v else if j ≤ i then h (j - 1) else h j
theorem insF_PM {h : Nat → Nat} {i t m : Nat} (ht : t ≤ i) (hi : i < m) : PM h (insF h i t (h i)) m := by
  refine ⟨fun j => if j < t then j else if j = t then i else if j ≤ i then j - 1 else j, fun j => if j < t then j else if j < i then j + 1 else if j = i then t else j, fun j hj => ?_, fun j hj => ?_⟩
  · dsimp only
    unfold insF
    by_cases h1 : j < t
    · rw [if_pos h1, if_pos h1, if_pos h1]; exact ⟨hj, rfl, rfl⟩
    · rw [if_neg h1, if_neg h1]
      by_cases h2 : j = t
      · rw [if_pos h2, if_pos h2, if_neg (by omega), if_neg (by omega), if_pos rfl]; exact ⟨hi, rfl, h2.symm⟩
      · rw [if_neg h2, if_neg h2]
        by_cases h3 : j ≤ i
        · rw [if_pos h3, if_pos h3, if_neg (by omega), if_pos (by omega)]; exact ⟨by omega, rfl, by omega⟩
        · rw [if_neg h3, if_neg h3, if_neg h1, if_neg (by omega), if_neg (by omega)]; exact ⟨hj, rfl, rfl⟩
  · dsimp only
    by_cases h1 : j < t
    · rw [if_pos h1, if_pos h1]; exact ⟨hj, rfl⟩
    · rw [if_neg h1]
      by_cases h2 : j < i
      · rw [if_pos h2, if_neg (by omega), if_neg (by omega), if_pos (by omega)]; exact ⟨by omega, by omega⟩
      · rw [if_neg h2]
        by_cases h3 : j = i
        · rw [if_pos h3, if_neg (Nat.lt_irrefl _), if_pos rfl]; exact ⟨by omega, h3.symm⟩
        · rw [if_neg h3, if_neg h1, if_neg (by omega), if_neg (by omega)]; exact ⟨hj, rfl⟩
theorem insF_so {h : Nat → Nat} {i t : Nat} {v : Nat} {w : Nat → Nat} (h1 : ∀ a b, a < b → b < i → w (h a) ≤ w (h b)) (h2 : ∀ j, t ≤ j → j < i → w v ≤ w (h j)) (h3 : ∀ j, j < t → w (h j) ≤ w v) : ∀ a b, a < b → b < i + 1 → t ≤ i → w (insF h i t v a) ≤ w (insF h i t v b) := by
  intro a b hab hb ht
  unfold insF
  by_cases c1 : b < t
  · rw [if_pos (show a < t by omega), if_pos c1]; exact h1 a b hab (by omega)
  · rw [if_neg c1]
    by_cases c2 : b = t
    · rw [if_pos c2, if_pos (show a < t by omega)]; exact h3 a (by omega)
    · rw [if_neg c2, if_pos (show b ≤ i by omega)]
      by_cases c3 : a < t
      · rw [if_pos c3]; exact h1 a (b - 1) (by omega) (by omega)
      · rw [if_neg c3]
        by_cases c4 : a = t
        · rw [if_pos c4]; exact h2 (b - 1) (by omega) (by omega)
        · rw [if_neg c4, if_pos (show a ≤ i by omega)]; exact h1 (a - 1) (b - 1) (by omega) (by omega)
theorem lw512 : ∀ s, s < 512 → ∀ j, j < 9 → s.testBit j = true → lwN s ≤ 2 ^ j := by decide +kernel
section ORDER
variable {X : Cx} {d : Nat} {M : Mem} {Q : Option AV → Mem → Prop}
theorem kp_order {c k1 m : Nat} {f : Nat → Nat} (hd : 1 ≤ d) (hc : isK M c 14 k1) (hm : m ≤ k1 ∧ k1 ≤ 8) (hf : ∀ s, s < m → f s < 512 ∧ mI M c s = nI (f s))
    (h : ∀ B g, Fr (atS c) M B → (∀ s, s < m → mI B c s = nI (g s)) → PM f g m → (∀ s t, s < t → t < m → lwN (g s) ≤ lwN (g t)) → Q none B) : Cl X d 0 0 m_X3_order [vR c, vI (nI m)] M Q := by
  have outer : ∀ r i (B : Mem) (g : Nat → Nat), 1 ≤ i → i + r = max 1 m → Fr (atS c) M B → (∀ s, s < m → g s < 512 ∧ mI B c s = nI (g s)) → PM f g m → (∀ s t, s < t → t < i → lwN (g s) ≤ lwN (g t)) → WA X d 0 0 m_X3_order 2 [some (vR c), some (vI (nI m)), some (vI (nI i)), none, none] [] B Q := by
    intro r
    induction r with
    | zero =>
      intro i B g hi1 hi hF hg hP hs
      exact b_X3_order_2 ⟨fun _ => h B g hF (fun s hs => (hg s hs).2) hP (fun s t h1 h2 => hs s t h1 (by omega)), fun q => absurd (by rw [na_le (by omega) (by omega)]; omega) q⟩
    | succ r ih =>
      intro i B g hi1 hi hF hg hP hs
      have him : i < m := by omega
      have hkB := hF.ext.1 _ _ _ hc
      have inner : ∀ t (N : Mem), t ≤ i → Fr (atS c) M N → (∀ j, j < m → j ≠ t → mI N c j = nI (insF g i t (g i) j)) → (∀ j, t ≤ j → j < i → lwN (g i) ≤ lwN (g j)) → WA X d 0 0 m_X3_order 14 [some (vR c), some (vI (nI m)), some (vI (nI i)), some (vI (nI (g i))), some (vI (nI t))] [] N Q := by
        intro t
        induction t with
        | zero =>
          intro N ht hN hv hw
          have hkN := hN.ext.1 _ _ _ hc
          refine b_X3_order_14 hd ⟨fun _ => ?_, fun q => absurd (by decide) q⟩
          refine b_X3_order_51 ⟨k1, hkN, na_in (by omega) (by omega), fun M1 e1 => ?_⟩
          rw [na_ix (by omega)] at e1
          rw [nI_add]
          refine ih (i + 1) M1 (insF g i 0 (g i)) (by omega) (by omega) (by rw [e1]; exact hN.trans (Fr.sI rfl)) (fun s hs2 => ⟨?_, ?_⟩) (hP.trans (insF_PM (Nat.zero_le _) him)) (fun a b hab hb => insF_so hs hw (fun j hj => by omega) a b hab hb (Nat.zero_le _))
          · obtain ⟨j, hj, e⟩ := (insF_PM (h := g) (Nat.zero_le i) him).get hs2
            rw [e]; exact (hg j hj).1
          · rw [e1, mI_sI]
            by_cases hq : s = 0
            · subst hq; rw [if_pos ⟨rfl, rfl⟩]; unfold insF; rw [if_neg (Nat.lt_irrefl _), if_pos rfl]
            · rw [if_neg (fun z => hq z.2)]; exact hv s hs2 hq
        | succ t iht =>
          intro N ht hN hv hw
          have hkN := hN.ext.1 _ _ _ hc
          have hgt := (hg t (by omega)).1
          have hgi := (hg i him).1
          have l1 := lwN_lt (s := g t) (n := 9) hgt
          have l2 := lwN_lt (s := g i) (n := 9) hgi
          have vt : mI N c t = nI (g t) := by
            rw [hv t (by omega) (by omega)]; unfold insF; rw [if_pos (Nat.lt_succ_self t)]
          have stop : lwN (g t) ≤ lwN (g i) → WA X d 0 0 m_X3_order 51 [some (vR c), some (vI (nI m)), some (vI (nI i)), some (vI (nI (g i))), some (vI (nI (t + 1)))] [] N Q := fun hle => by
            refine b_X3_order_51 ⟨k1, hkN, na_in (by omega) (by omega), fun M1 e1 => ?_⟩
            rw [na_ix (by omega)] at e1
            rw [nI_add]
            refine ih (i + 1) M1 (insF g i (t + 1) (g i)) (by omega) (by omega) (by rw [e1]; exact hN.trans (Fr.sI rfl)) (fun s hs2 => ⟨?_, ?_⟩) (hP.trans (insF_PM ht him)) (fun a b hab hb => insF_so hs hw (fun j hj => ?_) a b hab hb ht)
            · obtain ⟨j, hj, e⟩ := (insF_PM (h := g) ht him).get hs2
              rw [e]; exact (hg j hj).1
            · rw [e1, mI_sI]
              by_cases hq : s = t + 1
              · subst hq; rw [if_pos ⟨rfl, rfl⟩]; unfold insF; rw [if_neg (Nat.lt_irrefl _), if_pos rfl]
              · rw [if_neg (fun z => hq z.2)]; exact hv s hs2 hq
            · by_cases hj2 : j = t
              · subst hj2; exact hle
              · exact Nat.le_trans (hs j t (by omega) (by omega)) hle
          refine b_X3_order_14 hd ⟨fun q => absurd (by rw [na_le (by omega) (by decide)] at q; omega) (id : False → False), fun _ => ⟨k1, hkN, by rw [na_sub (by omega)]; exact na_in (by omega) (by omega), ?_⟩⟩
          rw [na_sub (by omega), Nat.add_sub_cancel, na_ix (by omega), vt]
          refine e_X3_lowest (b_X3_lowest_0 ⟨_, rfl, Ext.refl _, e_X3_lowest (b_X3_lowest_0 ⟨_, rfl, Ext.refl _, ?_⟩)⟩)
          rw [na_lw (by omega), na_lw (by omega), na_le (by omega) (by omega)]
          refine ⟨stop, fun q => ⟨na_in (by omega) (by omega), na_in (by omega) (by omega), fun M3 e3 => ?_⟩⟩
          rw [na_ix (by omega), vt] at e3
          rw [pk_m1]
          refine iht M3 (by omega) (by rw [e3]; exact hN.trans (Fr.sI rfl)) (fun j hj hjt => ?_) (fun j hj1 hj2 => ?_)
          · rw [e3, mI_sI]
            by_cases hq : j = t + 1
            · subst hq
              rw [if_pos ⟨rfl, rfl⟩]; unfold insF
              rw [if_neg (by omega), if_neg (by omega), if_pos ht]; rfl
            · rw [if_neg (fun z => hq z.2), hv j hj hq]
              congr 1
              unfold insF
              by_cases c1 : j < t
              · rw [if_pos c1, if_pos (by omega)]
              · rw [if_neg c1, if_neg (by omega), if_neg hq, if_neg hjt]
          · by_cases hq : j = t
            · subst hq; omega
            · exact hw j (by omega) hj2
      refine b_X3_order_2 ⟨fun q => absurd (by rw [na_le (by omega) (by omega)] at q; omega) (id : False → False), fun _ => ⟨k1, hkB, na_in (by omega) (by omega), fun x1 e1 => ?_⟩⟩
      rw [na_ix (by omega), (hg i him).2] at e1
      rw [e1]
      refine inner i B (Nat.le_refl _) hF (fun j hj hji => ?_) (fun j h1 h2 => by omega)
      rw [(hg j hj).2]
      congr 1
      unfold insF
      by_cases c1 : j < i
      · rw [if_pos c1]
      · rw [if_neg c1, if_neg hji, if_neg (by omega)]
  exact e_X3_order (b_X3_order_0 (outer (max 1 m - 1) 1 M f (Nat.le_refl _) (by omega) Fr.refl hf PM.refl (fun s t h1 h2 => by omega)))
end ORDER
/-! parts in order tell the number that naming anew gives -/
theorem nu_ext {b n x y o m m2 : Nat} (ho : ∀ q, q < n → o.testBit q = true) (hx : nuF b n x o n = some m) (hy : nuF b n y o n = some m2) (hk : ∀ q q', q < n → q' < n → (dgB b n x q = dgB b n x q' ↔ dgB b n y q = dgB b n y q')) : ∀ q, q < n → dgB b n x q = dgB b n y q := by
  obtain ⟨x1, x2, x3, x4⟩ := nuF_iff.mp hx
  obtain ⟨y1, y2, y3, y4⟩ := nuF_iff.mp hy
  intro q
  induction q using Nat.strongRecOn with
  | _ q ih =>
    intro hq
    rcases Nat.lt_trichotomy (dgB b n x q) (dgB b n y q) with hlt | he | hgt
    · obtain ⟨q', h1, h2, h3⟩ := y3 q hq (ho q hq) _ hlt
      have := ih q' h1 (by omega)
      have := (hk q' q (by omega) hq).mp (this.trans h3)
      omega
    · exact he
    · obtain ⟨q', h1, h2, h3⟩ := x3 q hq (ho q hq) _ hgt
      have := ih q' h1 (by omega)
      have := (hk q' q (by omega) hq).mpr (this.symm.trans h3)
      omega
theorem ord_cut {L : LandT} {m : Nat} {g E D : Nat → Nat} (hn : L.1 ≤ 9) (hm : m ≤ 4) (hg : ∀ s, s < m → g s < 2 ^ L.1 ∧ g s ≠ 0) (hE : ∀ q, q < L.1 → E q < m) (hgE : ∀ s, s < m → ∀ q, q < L.1 → (g s).testBit q = decide (E q = s)) (hso : ∀ s t, s < t → t < m → lwN (g s) ≤ lwN (g t)) (hD : ∀ p, D p < 4) (hDE : ∀ q q', q < L.1 → q' < L.1 → (D q = D q' ↔ E q = E q')) :
    numO g L.1 m = (rnF D L.1).2.2 ∧ (rnF D L.1).2.2 < 4 ^ L.1 ∧ nuF 2 L.1 (rnF D L.1).2.2 (whL L) L.1 = some m ∧ ∀ s, s < m → sOB 2 L.1 (rnF D L.1).2.2 (whL L) s = g s := by
  have h512 := p9 hn
  have hwh : ∀ q, q < L.1 → (whL L).testBit q = true := fun q hq => by rw [tb_wh, decide_eq_true hq]
  let D' : Nat → Nat := fun p => if p < L.1 then E p else 0
  have hD' : ∀ p, D' p < 2 ^ 2 := fun p => by
    show (if p < L.1 then E p else 0) < 4
    split
    · rename_i h; have := hE p h; omega
    · omega
  have eD : ∀ q, q < L.1 → D' q = E q := fun q hq => if_pos hq
  have hx : numO g L.1 m = ofD 2 D' L.1 := by
    refine numO_of (I := fun p => decide (p < L.1)) (fun s hs p hp => ?_) (fun p hp => ?_) (fun p hp => ?_)
    · rw [hgE s hs p hp, decide_eq_true hp, Bool.true_and, eD p hp]
    · exact if_neg (of_decide_eq_false hp)
    · rw [eD p (of_decide_eq_true hp)]; exact hE p (of_decide_eq_true hp)
  have dx : ∀ q, q < L.1 → dgB 2 L.1 (numO g L.1 m) q = E q := fun q hq => by rw [hx, dg_ofD hD' L.1 q hq, eD q hq]
  have hxl : numO g L.1 m < 4 ^ L.1 := by rw [hx]; exact ofD_lt hD' L.1
  have lowq : ∀ s, s < m → ∃ k, k < L.1 ∧ lwN (g s) = 2 ^ k ∧ (g s).testBit k = true := fun s hs => by
    obtain ⟨k, k1, k2⟩ := lwN_bit (hg s hs).2 (show g s < 2 ^ 31 by have := (hg s hs).1; omega)
    refine ⟨k, ?_, k1, k2⟩
    refine Classical.byContradiction (fun hk => ?_)
    have := Nat.testBit_lt_two_pow (Nat.lt_of_lt_of_le (hg s hs).1 (Nat.pow_le_pow_right (by decide) (show L.1 ≤ k by omega)))
    rw [this] at k2; cases k2
  have hnx : nuF 2 L.1 (numO g L.1 m) (whL L) L.1 = some m := by
    refine nuF_iff.mpr ⟨fun q hq _ => by rw [dx q hq]; exact hE q hq, fun s hs => ?_, fun q hq _ s hs => ?_, fun q hq ho => ?_⟩
    · obtain ⟨k, hk, -, k2⟩ := lowq s hs
      rw [hgE s hs k hk] at k2
      exact ⟨k, hk, hwh k hk, by rw [dx k hk]; exact of_decide_eq_true k2⟩
    · rw [dx q hq] at hs
      have hEq := hE q hq
      obtain ⟨k, hk, k1, k2⟩ := lowq s (by omega)
      have h1 := hso s (E q) hs hEq
      have hb : (g (E q)).testBit q = true := by rw [hgE _ hEq q hq]; exact decide_eq_true rfl
      have h2 := lw512 (g (E q)) (by have := (hg _ hEq).1; omega) q (by omega) hb
      rw [hgE s (by omega) k hk] at k2
      have k3 := of_decide_eq_true k2
      have hkq : k ≤ q := by
        refine Classical.byContradiction (fun hc => ?_)
        have := Nat.pow_lt_pow_right (a := 2) (by decide) (show q < k by omega)
        omega
      have hne : k ≠ q := fun z => by subst z; omega
      exact ⟨k, by omega, hwh k hk, by rw [dx k hk]; exact k3⟩
    · rw [hwh q hq] at ho; cases ho
  obtain ⟨r1, r2, r3, r4⟩ := rn_all hD (o := whL L) L.1 hwh
  obtain ⟨o1, o2, o3, o4⟩ := rnF_ok hD L.1
  have heq : numO g L.1 m = (rnF D L.1).2.2 := by
    refine dg_ext (b := 2) (n := L.1) hxl o3 (nu_ext hwh hnx r1 (fun q q' hq hq' => ?_))
    rw [dx q hq, dx q' hq', ← hDE q q' hq hq']
    have a1 := r2 q hq
    have a2 := r2 q' hq'
    constructor
    · intro e
      rw [e, a2] at a1
      exact (Option.some.inj a1).symm
    · intro e
      exact r4 _ _ _ (a1.trans (congrArg some e)) a2
  refine ⟨heq, o3, by rw [← heq]; exact hnx, fun s hs => ?_⟩
  rw [← heq]
  apply Nat.eq_of_testBit_eq
  intro j
  rw [tb_sOB, tb_wh]
  by_cases hj : j < L.1
  · rw [decide_eq_true hj, Bool.true_and, Bool.true_and, dx j hj, hgE s hs j hj]
  · rw [decide_eq_false hj, Bool.false_and]
    exact (Nat.testBit_lt_two_pow (Nat.lt_of_lt_of_le (hg s hs).1 (Nat.pow_le_pow_right (by decide) (by omega)))).symm
theorem ord_fam {L : LandT} {m : Nat} {f g D : Nat → Nat} (hn : L.1 ≤ 9) (hm : m ≤ 4) (hf : ∀ i, i < m → f i < 2 ^ L.1 ∧ f i ≠ 0) (hD : ∀ p, D p < 4) (hDm : ∀ q, q < L.1 → D q < m) (hfD : ∀ i, i < m → ∀ q, q < L.1 → (f i).testBit q = decide (D q = i)) (hP : PM f g m) (hso : ∀ s t, s < t → t < m → lwN (g s) ≤ lwN (g t)) :
    numO g L.1 m = (rnF D L.1).2.2 ∧ (rnF D L.1).2.2 < 4 ^ L.1 ∧ nuF 2 L.1 (rnF D L.1).2.2 (whL L) L.1 = some m ∧ ∀ s, s < m → sOB 2 L.1 (rnF D L.1).2.2 (whL L) s = g s := by
  obtain ⟨σ, τ, h1, h2⟩ := hP
  refine ord_cut (E := fun q => τ (D q)) hn hm (fun s hs => ?_) (fun q hq => (h2 _ (hDm q hq)).1) (fun s hs q hq => ?_) hso hD (fun q q' hq hq' => ?_)
  · obtain ⟨a, b, c⟩ := h1 s hs
    rw [b]; exact hf _ a
  · obtain ⟨a, b, c⟩ := h1 s hs
    rw [b, hfD _ a q hq]
    by_cases h : D q = σ s
    · rw [decide_eq_true h, decide_eq_true (show τ (D q) = s by rw [h]; exact c)]
    · rw [decide_eq_false h, decide_eq_false (fun z : τ (D q) = s => h (by rw [← z, (h2 _ (hDm q hq)).2]))]
  · constructor
    · intro e; show τ (D q) = τ (D q'); rw [e]
    · intro e
      have e : τ (D q) = τ (D q') := e
      rw [← (h2 _ (hDm q hq)).2, e, (h2 _ (hDm q' hq')).2]
