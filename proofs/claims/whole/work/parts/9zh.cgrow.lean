/-! THE CLASS: more comes to the object -/
def grS (T : AdT) (x b k : Nat) : Prop := sfS b k ∨ (b = 2 ∧ k = 1) ∨ b = 1 ∨ aOw T b = x
def grT (b k : Nat) : Prop := sfT b k ∨ b = 11 ∨ b = 12 ∨ b = 13
section GROW
variable {X : Cx} {d kc ns : Nat} {M : Mem} {s : StT} {T : AdT} {Q : Option AV → Mem → Prop}
/-- what was there stays -/
theorem CI.grow {x : Nat} {B : Mem} (h : CI M s T) (hx : x ≠ 0 ∧ x < 200) (hF : Fal (grS T x) grT M B) (hE : Ext M B) : TpS B ∧ (∀ l, l < sNl s → 100 + l ≠ x → ldX B (aLa T l) (sLs s l) (aRm T l) (gOn s l)) ∧ (∀ p, p < sNp s → prX B (aPa T p) (sPs s p)) ∧ (∀ g, g < sNg s → gaX B (aGa T g) (aLa T (sGs s g).1) (aPa T (sGs s g).2.1) (sLs s (sGs s g).1) (gmO s g) (sGs s g).2.2) ∧ (mI B 33 0 = nI 0 ∧ mcX B) ∧ mvX B s T ∧ anX B s ∧ OFr M B := by
  obtain ⟨⟨hTp, hSO⟩, hk, -, hld, hpr, hga, ⟨h18, hmc⟩, hmv, han, hse⟩ := h
  have l90 : 105 ≤ nx M := hse.2.2.2.2
  have lo : ∀ b, b < 105 → aOw T b = 0 := hse.1
  have i : ∀ b k, b < 105 → b ≠ 1 → b ≠ 2 → ¬ sfS b k → mI B b k = mI M b k := fun b k hb q1 q2 q => hF.2.1 b k (by omega) (fun w => by
    rcases w with w | w | w | w
    · exact q w
    · omega
    · omega
    · have := lo b hb; omega)
  have r : ∀ b k, b < 105 → (b < 11 ∨ 13 < b) → ¬ sfT b k → mR B b k = mR M b k := fun b k hb q1 q => hF.2.2.1 b k (by omega) (fun w => by
    rcases w with w | w
    · exact q w
    · omega)
  have nT : ∀ b k, b ≠ 35 → b ≠ 29 → b ≠ 67 → (b < 43 ∨ 61 < b) → ¬ sfT b k := fun b k q1 q2 q3 q4 q => by
    rcases q with q | q | q
    · unfold slT at q; omega
    · rcases q with q | ⟨j, j1, j2, j3, j4⟩ <;> omega
    · omega
  have nS : ∀ b k y, aOw T b = y → y ≠ 0 → y ≠ x → ¬ grS T x b k := fun b k y h1 h2 h3 w => by
    have := hse.lo h1 h2
    rcases w with w | w | w | w
    · exact sfS_no (by omega) w
    · omega
    · omega
    · omega
  have nR : ∀ b k y, aOw T b = y → y ≠ 0 → ¬ grT b k := fun b k y h1 h2 w => by
    have := hse.lo h1 h2
    rcases w with w | w
    · exact sfT_no (by omega) w
    · omega
  have r23 : ∀ k, mR B 38 k = mR M 38 k := fun k => r _ _ (by decide) (by decide) (nT _ _ (by decide) (by decide) (by decide) (by decide))
  refine ⟨hTp.ext hE, fun l hl hlx => ?_, fun p hp => ?_, fun g hg => ?_, ⟨(i _ _ (by decide) (by decide) (by decide) (by unfold sfS slS; omega)).trans h18, fun k hk2 => ?_⟩, ⟨⟨(by rw [r23]; exact Nat.lt_of_lt_of_le hmv.1.1 hF.1), (by rw [r23]; exact Nat.lt_of_lt_of_le hmv.1.2 hF.1)⟩, fun l p ot g hl hp hg e1 e2 e3 e4 => ?_⟩, fun l p w hl hp hw => ?_, ?_⟩
  · obtain ⟨o1, o2, o3⟩ := hse.2.1 l hl
    refine (hld l hl).al hF hE (fun b k q1 q2 => nS b k (100 + l) (by rw [← o1 (b - aLa T l) (by omega)]; congr 1; omega) (by omega) hlx) (fun k => nR _ k (100 + l) (o1 9 (by omega)) (by omega)) (fun q hq k => ?_)
    obtain ⟨⟨w1, w2⟩, w3, w4⟩ := o3 q hq
    exact ⟨nS _ k _ w1 (by omega) hlx, nS _ k _ w2 (by omega) hlx⟩
  · obtain ⟨o1, o2⟩ := hse.2.2.1 p hp
    exact (hpr p hp).al hF hE (fun b k q1 q2 => nS b k (200 + p) (by rw [← o1 (b - aPa T p) (by omega)]; congr 1; omega) (by omega) (by omega))
  · obtain ⟨o1, o2⟩ := hse.2.2.2.1 g hg
    exact (hga g hg).al hF hE (fun b k q1 q2 => nS b k (300 + g) (by rw [← o1 (b - aGa T g) (by omega)]; congr 1; omega) (by omega) (by omega)) ⟨nR _ _ _ (o1 0 (by omega)) (by omega), nR _ _ _ (o1 0 (by omega)) (by omega)⟩
  · obtain ⟨k1, k2, k3⟩ := hmc k hk2
    exact ⟨(r _ _ (by decide) (by decide) (nT _ _ (by decide) (by decide) (by decide) (by decide))).trans k1, k2.ext hE, (i _ _ (by omega) (by omega) (by omega) (by unfold sfS slS; omega)).trans k3⟩
  · rw [r23] at e1 e2
    rw [i _ _ (by decide) (by decide) (by decide) (by unfold sfS slS; omega)] at e3 e4
    exact (hmv.2 l p ot g hl hp hg e1 e2 e3 e4).eq (fun k => i _ _ (by decide) (by decide) (by decide) (by unfold sfS slS; omega)) (fun k => i _ _ (by decide) (by decide) (by decide) (by unfold sfS slS; omega))
  · rw [i _ _ (by decide) (by decide) (by decide) (by unfold sfS slS; omega)]; exact han l p w hl hp hw
  · exact ⟨hF.1, fun b k q1 q2 => ⟨i _ _ q2 (by omega) (by omega) (sfS_no q1), r _ _ q2 (by omega) (sfT_no q1), hF.2.2.2.1 b k (by omega)⟩, hE⟩
/-- one more protocol, at n -/
def growP (T : AdT) (p n : Nat) : AdT := (aLa T, (fun i => if i = p then n else aPa T i), aGa T, aRm T, fun b => if n ≤ b ∧ b ≤ n + 2 then 200 + p else aOw T b)
theorem CI.np {R : ProT} {B : Mem} (h : CI M s T) (hnp : sNp s < 8) (hO : ProOK R) (hF : Fal (grS T 7) grT M B) (hE : Ext M B) (hk : kT B 0 (sT s)) (hc : mI B 1 6 = nI (sNl s) ∧ mI B 1 7 = nI (sNp s + 1) ∧ mI B 1 8 = nI (sNg s)) (h11 : ∀ k, mR B 11 k = mR M 11 k) (h12 : ∀ k, mR B 12 k = if k = sNp s then nx M else mR M 12 k) (h13 : ∀ k, mR B 13 k = mR M 13 k) (hX : prX B (nx M) R) (hnx : nx B = nx M + 3) :
    CI B ((0, sT s), s.2.1, (sNp s + 1, fun p => if p = sNp s then R else sPs s p), s.2.2.2) (growP T (sNp s) (nx M)) ∧ OFr M B := by
  obtain ⟨g1, g2, g3, g4, g5, g6, g7, g8⟩ := h.grow (x := 7) (by decide) hF hE
  have lpN := fun p hp => h.lp (p := p) hp
  obtain ⟨⟨hTp, hSO⟩, hk0, ⟨⟨c6, c7, c8⟩, cl, cp, cg⟩, hld, hpr, hga, ⟨h18, hmc⟩, hmv, han, hse⟩ := h
  have l90 : 105 ≤ nx M := hse.2.2.2.2
  have eo : ∀ b, b < nx M → aOw (growP T (sNp s) (nx M)) b = aOw T b := fun b hb => if_neg (fun w => by omega)
  have ep : ∀ p, p < sNp s → aPa (growP T (sNp s) (nx M)) p = aPa T p := fun p hp => if_neg (by omega)
  have en : aPa (growP T (sNp s) (nx M)) (sNp s) = nx M := if_pos rfl
  have eP : ∀ p, p < sNp s → (fun p => if p = sNp s then R else sPs s p) p = sPs s p := fun p hp => if_neg (by omega)
  refine ⟨⟨⟨g1, ⟨by show (0 : Nat) ≤ 300; omega, fun i hi => absurd hi (Nat.not_lt_zero _)⟩, hSO.2.1, ⟨by show sNp s + 1 ≤ 8; omega, fun p hp => ?_⟩, hSO.2.2.2.1, fun g hg => ?_⟩, hk, ⟨hc, fun l hl => (h11 l).trans (cl l hl), fun p hp => ?_, fun g hg => (h13 g).trans (cg g hg)⟩, fun l hl => g2 l hl (by have hl : l < sNl s := hl; omega), fun p hp => ?_, fun g hg => ?_, g5, ⟨g6.1, fun l p ot g hl hp hg e1 e2 e3 e4 => ?_⟩, fun l p w hl hp hw => ?_, ?_⟩, g8⟩
  · have hp : p < sNp s + 1 := hp
    show ProOK (if p = sNp s then R else sPs s p)
    by_cases z : p = sNp s
    · rw [if_pos z]; exact hO
    · rw [if_neg z]; exact hSO.2.2.1.2 p (by omega)
  · obtain ⟨s1, s2, s3⟩ := hSO.2.2.2.2 g hg
    refine ⟨s1, Nat.lt_succ_of_lt s2, ?_⟩
    show lgM (sLs s (sGs s g).1) (if (sGs s g).2.1 = sNp s then R else sPs s (sGs s g).2.1) (sGs s g).2.2
    rw [if_neg (by omega)]; exact s3
  · have hp : p < sNp s + 1 := hp
    rw [h12]
    by_cases z : p = sNp s
    · rw [if_pos z, z, en]
    · rw [if_neg z, ep p (by omega)]; exact cp p (by omega)
  · have hp : p < sNp s + 1 := hp
    show prX B (aPa (growP T (sNp s) (nx M)) p) (if p = sNp s then R else sPs s p)
    by_cases z : p = sNp s
    · rw [if_pos z, z, en]; exact hX
    · rw [if_neg z, ep p (by omega)]; exact g3 p (by omega)
  · obtain ⟨s1, s2, s3⟩ := hSO.2.2.2.2 g hg
    have := g4 g hg
    unfold gmO at this ⊢
    show gaX B (aGa T g) (aLa T (sGs s g).1) (aPa (growP T (sNp s) (nx M)) (sGs s g).2.1) (sLs s (sGs s g).1) (plG (sLs s (sGs s g).1) (if (sGs s g).2.1 = sNp s then R else sPs s (sGs s g).2.1) (sGs s g).2.2) (sGs s g).2.2
    rw [if_neg (by omega), ep _ s2]; exact this
  · have hp : p < sNp s + 1 := hp
    show mmX B (sLs s l) (if p = sNp s then R else sPs s p) g ot
    by_cases z : p = sNp s
    · rw [z, en] at e2
      have : mR B 38 6 = mR M 38 6 := hF.2.2.1 38 6 (by omega) (fun w => by
        rcases w with w | w
        · rcases w with w | w | w
          · unfold slT at w; omega
          · rcases w with w | ⟨j, j1, j2, j3, j4⟩ <;> omega
          · omega
        · omega)
      have := hmv.1.2
      omega
    · rw [if_neg z]
      rw [ep p (by omega)] at e2
      exact g6.2 l p ot g hl (by omega) hg e1 e2 e3 e4
  · rcases g7 l p w hl hp hw with q | ⟨q1, q2, q3⟩
    · exact Or.inl q
    · refine Or.inr ⟨q1, Nat.lt_succ_of_lt q2, ?_⟩
      show mI B 72 (5 * (8 * l + p) + w) = (if w < 3 then zI (sgI w (vnF (sLs s l) (if p = sNp s then R else sPs s p) w false (stG (sLs s l) (if p = sNp s then R else sPs s p)))) else if w = 3 then zI (vnF (sLs s l) (if p = sNp s then R else sPs s p) 0 true (stG (sLs s l) (if p = sNp s then R else sPs s p))) else edI (sLs s l) (if p = sNp s then R else sPs s p))
      rw [if_neg (show ¬ p = sNp s by omega)]; exact q3
  · refine ⟨fun b hb => (eo b (by omega)).trans (hse.1 b hb), fun l hl => ?_, fun p hp => ?_, fun g hg => ?_, by omega⟩
    · obtain ⟨o1, o2, o3⟩ := hse.2.1 l hl
      refine ⟨fun j hj => (eo (aLa T l + j) (by omega)).trans (o1 j hj), by show aLa T l + 11 < nx B; omega, fun q hq => ?_⟩
      obtain ⟨⟨w1, w2⟩, w3, w4, w5⟩ := o3 q hq
      exact ⟨⟨(eo _ w4).trans w1, (eo _ w5).trans w2⟩, w3, by omega, by omega⟩
    · have hp : p < sNp s + 1 := hp
      by_cases z : p = sNp s
      · subst z
        rw [en]
        exact ⟨fun j hj => if_pos ⟨by omega, by omega⟩, by omega⟩
      · rw [ep p (by omega)]
        obtain ⟨o1, o2⟩ := hse.2.2.1 p (by omega)
        exact ⟨fun j hj => (eo _ (by omega)).trans (o1 j hj), by omega⟩
    · obtain ⟨o1, o2⟩ := hse.2.2.2.1 g hg
      exact ⟨fun j hj => (eo (aGa T g + j) (by omega)).trans (o1 j hj), by show aGa T g + 4 < nx B; omega⟩
end GROW
