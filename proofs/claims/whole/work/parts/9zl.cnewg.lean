/-! THE CLASS: a game comes to the object -/
/-- one more game, at n -/
def growG (T : AdT) (g n : Nat) : AdT := (aLa T, aPa T, (fun i => if i = g then n else aGa T i), aRm T, fun b => if n ≤ b ∧ b ≤ n + 4 then 300 + g else aOw T b)
section NEWG
variable {X : Cx} {d kc ns : Nat} {M : Mem} {s : StT} {T : AdT} {Q : Option AV → Mem → Prop}
theorem gOn_new {k j l : Nat} : gOn (s.1, s.2.1, s.2.2.1, (sNg s + 1, fun i => if i = sNg s then (k, j, []) else sGs s i)) l = (gOn s l || decide (k = l)) := by
  unfold gOn
  show (List.range (sNg s + 1)).any (fun g => decide ((if g = sNg s then (k, j, []) else sGs s g).1 = l)) = _
  rw [List.range_succ, List.any_append]
  congr 1
  · rw [Bool.eq_iff_iff, List.any_eq_true, List.any_eq_true]
    constructor
    · rintro ⟨g, w1, w2⟩
      have w3 := List.mem_range.mp w1
      rw [if_neg (by omega)] at w2
      exact ⟨g, w1, w2⟩
    · rintro ⟨g, w1, w2⟩
      have w3 := List.mem_range.mp w1
      refine ⟨g, w1, ?_⟩
      rw [if_neg (by omega)]; exact w2
  · simp
theorem CI.ng {k j : Nat} {B : Mem} (h : CI M s T) (hng : sNg s < 8) (hk : k < sNl s) (hj : j < sNp s) (hF : Fal (grS T (100 + k)) grT M B) (hE : Ext M B) (hkt : kT B (sZ s) (sT s)) (hc : mI B 1 6 = nI (sNl s) ∧ mI B 1 7 = nI (sNp s) ∧ mI B 1 8 = nI (sNg s + 1)) (h11 : ∀ k, mR B 11 k = mR M 11 k) (h12 : ∀ k, mR B 12 k = mR M 12 k) (h13 : ∀ k, mR B 13 k = if k = sNg s then nx M else mR M 13 k) (hX : ldX B (aLa T k) (sLs s k) (aRm T k) true) (hA : gaX B (nx M) (aLa T k) (aPa T j) (sLs s k) (stG (sLs s k) (sPs s j)) []) (hnx : nx B = nx M + 5) :
    CI B (s.1, s.2.1, s.2.2.1, (sNg s + 1, fun i => if i = sNg s then (k, j, []) else sGs s i)) (growG T (sNg s) (nx M)) ∧ OFr M B := by
  have h6 := h.1.2.2.1.1
  obtain ⟨g1, g2, g3, g4, g5, g6, g7, g8⟩ := h.grow (x := 100 + k) (by omega) hF hE
  obtain ⟨⟨hTp, hSO⟩, hk0, ⟨⟨c6, c7, c8⟩, cl, cp, cg⟩, hld, hpr, hga, ⟨h18, hmc⟩, hmv, han, hse⟩ := h
  have l90 : 105 ≤ nx M := hse.2.2.2.2
  have eo : ∀ b, b < nx M → aOw (growG T (sNg s) (nx M)) b = aOw T b := fun b hb => if_neg (fun w => by omega)
  have ep : ∀ p, p < sNg s → aGa (growG T (sNg s) (nx M)) p = aGa T p := fun p hp => if_neg (by omega)
  have en : aGa (growG T (sNg s) (nx M)) (sNg s) = nx M := if_pos rfl
  refine ⟨⟨⟨g1, hSO.1, hSO.2.1, hSO.2.2.1, by show sNg s + 1 ≤ 8; omega, fun g hg => ?_⟩, hkt, ⟨hc, fun l hl => (h11 l).trans (cl l hl), fun p hp => (h12 p).trans (cp p hp), fun g hg => ?_⟩, fun l hl => ?_, g3, fun g hg => ?_, g5, g6, g7, ?_⟩, g8⟩
  · have hg : g < sNg s + 1 := hg
    show (if g = sNg s then (k, j, []) else sGs s g).1 < sNl s ∧ (if g = sNg s then (k, j, []) else sGs s g).2.1 < sNp s ∧ lgM (sLs s (if g = sNg s then (k, j, []) else sGs s g).1) (sPs s (if g = sNg s then (k, j, []) else sGs s g).2.1) (if g = sNg s then (k, j, []) else sGs s g).2.2
    by_cases z : g = sNg s
    · rw [if_pos z]; exact ⟨hk, hj, lgM_nil _ _⟩
    · rw [if_neg z]; exact hSO.2.2.2.2 g (by omega)
  · have hg : g < sNg s + 1 := hg
    rw [h13]
    by_cases z : g = sNg s
    · rw [if_pos z, z, en]
    · rw [if_neg z, ep g (by omega)]; exact cg g (by omega)
  · have hl : l < sNl s := hl
    rw [gOn_new]
    by_cases z : k = l
    · subst z
      rw [decide_eq_true rfl, Bool.or_true]; exact hX
    · rw [decide_eq_false z, Bool.or_false]; exact g2 l hl (by omega)
  · have hg : g < sNg s + 1 := hg
    unfold gmO
    show gaX B (aGa (growG T (sNg s) (nx M)) g) (aLa T (if g = sNg s then (k, j, []) else sGs s g).1) (aPa T (if g = sNg s then (k, j, []) else sGs s g).2.1) (sLs s (if g = sNg s then (k, j, []) else sGs s g).1) (plG (sLs s (if g = sNg s then (k, j, []) else sGs s g).1) (sPs s (if g = sNg s then (k, j, []) else sGs s g).2.1) (if g = sNg s then (k, j, []) else sGs s g).2.2) (if g = sNg s then (k, j, []) else sGs s g).2.2
    by_cases z : g = sNg s
    · rw [if_pos z, z, en]; exact hA
    · rw [if_neg z, ep g (by omega)]
      have := g4 g (by omega)
      unfold gmO at this; exact this
  · refine ⟨fun b hb => (eo b (by omega)).trans (hse.1 b hb), fun l hl => ?_, fun p hp => ?_, fun g hg => ?_, by omega⟩
    · obtain ⟨o1, o2, o3⟩ := hse.2.1 l hl
      refine ⟨fun j hj => (eo (aLa T l + j) (by omega)).trans (o1 j hj), by show aLa T l + 11 < nx B; omega, fun q hq => ?_⟩
      obtain ⟨⟨w1, w2⟩, w3, w4, w5⟩ := o3 q hq
      exact ⟨⟨(eo _ w4).trans w1, (eo _ w5).trans w2⟩, w3, by omega, by omega⟩
    · obtain ⟨o1, o2⟩ := hse.2.2.1 p hp
      exact ⟨fun j hj => (eo (aPa T p + j) (by omega)).trans (o1 j hj), by show aPa T p + 2 < nx B; omega⟩
    · have hg : g < sNg s + 1 := hg
      by_cases z : g = sNg s
      · subst z
        rw [en]
        exact ⟨fun j hj => if_pos ⟨by omega, by omega⟩, by omega⟩
      · rw [ep g (by omega)]
        obtain ⟨o1, o2⟩ := hse.2.2.2.1 g (by omega)
        exact ⟨fun j hj => (eo _ (by omega)).trans (o1 j hj), by omega⟩
end NEWG
