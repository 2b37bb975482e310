/-! THE CLASS: a land comes to the object -/
theorem landT_P {z : Nat} {t : Nat → Nat} (h : (landT z t).1 = none) : LdOK (landT z t).2 := by
  have key : ∀ (f : Nat) (w : Option Nat) (i : Nat) (L : LandT), (w = none → LdOK L) → (sentsT z t f w i L).1 = none → LdOK (sentsT z t f w i L).2 := by
    intro f
    induction f with
    | zero => intro w i L hw q; exact hw q
    | succ f ih =>
      intro w i L hL q
      cases w with
      | some e => cases q
      | none =>
        have hLo := hL rfl
        unfold sentsT at q ⊢
        by_cases c1 : chr z t i = 59
        · rw [if_pos c1] at q ⊢
          exact ih _ _ _ (fun hn => (sentT_ok hLo hn).2.2) q
        · rw [if_neg c1] at q ⊢
          by_cases c2 : skp z t i < z
          · rw [if_pos c2] at q; cases q
          · rw [if_neg c2]; exact hLo
  unfold landT at h ⊢
  dsimp only at h ⊢
  refine key _ _ _ _ (fun hn => ?_) h
  have hs : (signT z t 47 (numT z t 2 9 none none 0).2.1 (numT z t 2 9 none none 0).2.2).1 = none := by
    cases q : (signT z t 47 (numT z t 2 9 none none 0).2.1 (numT z t 2 9 none none 0).2.2).1 with
    | none => rfl
    | some f => rw [q] at hn; unfold numT at hn; cases hn
  have h1 : (numT z t 2 9 none none 0).2.1 = none := by
    cases q : (numT z t 2 9 none none 0).2.1 with
    | none => rfl
    | some f => rw [q] at hs; unfold signT at hs; cases hs
  have ok1 := numT_ok h1
  rw [hs] at hn ⊢
  have ok3 := numT_ok hn
  exact L0_ok ⟨ok1.1, ok1.2.1⟩ ⟨ok3.1, by omega, by omega⟩
/-- one more land, at n -/
def growL (T : AdT) (l n : Nat) : AdT := ((fun i => if i = l then n else aLa T i), aPa T, aGa T, (fun i => if i = l then none else aRm T i), fun b => if n ≤ b ∧ b ≤ n + 11 then 100 + l else aOw T b)
section NEWL
variable {X : Cx} {d kc ns : Nat} {M : Mem} {s : StT} {T : AdT} {Q : Option AV → Mem → Prop}
theorem CI.nl {L : LandT} {B : Mem} (h : CI M s T) (hnl : sNl s < 6) (hO : LdOK L) (hF : Fal (grS T 7) grT M B) (hE : Ext M B) (hk : kT B 0 (sT s)) (hc : mI B 1 6 = nI (sNl s + 1) ∧ mI B 1 7 = nI (sNp s) ∧ mI B 1 8 = nI (sNg s)) (h11 : ∀ k, mR B 11 k = if k = sNl s then nx M else mR M 11 k) (h12 : ∀ k, mR B 12 k = mR M 12 k) (h13 : ∀ k, mR B 13 k = mR M 13 k) (hX : ldX B (nx M) L none false) (hnx : nx B = nx M + 12) :
    CI B ((0, sT s), (sNl s + 1, fun l => if l = sNl s then L else sLs s l), s.2.2) (growL T (sNl s) (nx M)) ∧ OFr M B := by
  obtain ⟨g1, g2, g3, g4, g5, g6, g7, g8⟩ := h.grow (x := 7) (by decide) hF hE
  obtain ⟨⟨hTp, hSO⟩, hk0, ⟨⟨c6, c7, c8⟩, cl, cp, cg⟩, hld, hpr, hga, ⟨h18, hmc⟩, hmv, han, hse⟩ := h
  have l90 : 105 ≤ nx M := hse.2.2.2.2
  have eo : ∀ b, b < nx M → aOw (growL T (sNl s) (nx M)) b = aOw T b := fun b hb => if_neg (fun w => by omega)
  have ep : ∀ p, p < sNl s → aLa (growL T (sNl s) (nx M)) p = aLa T p := fun p hp => if_neg (by omega)
  have er : ∀ p, p < sNl s → aRm (growL T (sNl s) (nx M)) p = aRm T p := fun p hp => if_neg (by omega)
  have en : aLa (growL T (sNl s) (nx M)) (sNl s) = nx M := if_pos rfl
  have em : aRm (growL T (sNl s) (nx M)) (sNl s) = none := if_pos rfl
  have gnl : gOn s (sNl s) = false := by
    cases hb : gOn s (sNl s) with
    | false => rfl
    | true =>
      unfold gOn at hb
      rw [List.any_eq_true] at hb
      obtain ⟨g, w1, w2⟩ := hb
      have w1 := List.mem_range.mp w1
      have w2 := of_decide_eq_true w2
      have := (hSO.2.2.2.2 g w1).1
      omega
  refine ⟨⟨⟨g1, ⟨by show (0 : Nat) ≤ 300; omega, fun i hi => absurd hi (Nat.not_lt_zero _)⟩, ⟨by show sNl s + 1 ≤ 6; omega, fun l hl => ?_⟩, hSO.2.2.1, hSO.2.2.2.1, fun g hg => ?_⟩, hk, ⟨hc, fun l hl => ?_, fun p hp => (h12 p).trans (cp p hp), fun g hg => (h13 g).trans (cg g hg)⟩, fun l hl => ?_, g3, fun g hg => ?_, g5, ⟨g6.1, fun l p ot g hl hp hg e1 e2 e3 e4 => ?_⟩, fun l p w hl hp hw => ?_, ?_⟩, g8⟩
  · have hl : l < sNl s + 1 := hl
    show LdOK (if l = sNl s then L else sLs s l)
    by_cases z : l = sNl s
    · rw [if_pos z]; exact hO
    · rw [if_neg z]; exact hSO.2.1.2 l (by omega)
  · obtain ⟨s1, s2, s3⟩ := hSO.2.2.2.2 g hg
    refine ⟨Nat.lt_succ_of_lt s1, s2, ?_⟩
    show lgM (if (sGs s g).1 = sNl s then L else sLs s (sGs s g).1) (sPs s (sGs s g).2.1) (sGs s g).2.2
    rw [if_neg (by omega)]; exact s3
  · have hl : l < sNl s + 1 := hl
    rw [h11]
    by_cases z : l = sNl s
    · rw [if_pos z, z, en]
    · rw [if_neg z, ep l (by omega)]; exact cl l (by omega)
  · have hl : l < sNl s + 1 := hl
    show ldX B (aLa (growL T (sNl s) (nx M)) l) (if l = sNl s then L else sLs s l) (aRm (growL T (sNl s) (nx M)) l) (gOn s l)
    by_cases z : l = sNl s
    · rw [if_pos z, z, en, em, gnl]; exact hX
    · rw [if_neg z, ep l (by omega), er l (by omega)]; exact g2 l (by omega) (by omega)
  · obtain ⟨s1, s2, s3⟩ := hSO.2.2.2.2 g hg
    have := g4 g hg
    unfold gmO at this ⊢
    show gaX B (aGa T g) (aLa (growL T (sNl s) (nx M)) (sGs s g).1) (aPa T (sGs s g).2.1) (if (sGs s g).1 = sNl s then L else sLs s (sGs s g).1) (plG (if (sGs s g).1 = sNl s then L else sLs s (sGs s g).1) (sPs s (sGs s g).2.1) (sGs s g).2.2) (sGs s g).2.2
    rw [if_neg (by omega), ep _ s1]; exact this
  · have hl : l < sNl s + 1 := hl
    show mmX B (if l = sNl s then L else sLs s l) (sPs s p) g ot
    by_cases z : l = sNl s
    · rw [z, en] at e1
      have : mR B 38 5 = mR M 38 5 := hF.2.2.1 38 5 (by omega) (fun w => by
        rcases w with w | w
        · rcases w with w | w | w
          · unfold slT at w; omega
          · rcases w with w | ⟨j, j1, j2, j3, j4⟩ <;> omega
          · omega
        · omega)
      have := hmv.1.1
      omega
    · rw [if_neg z]
      rw [ep l (by omega)] at e1
      exact g6.2 l p ot g (by omega) hp hg e1 e2 e3 e4
  · rcases g7 l p w hl hp hw with q | ⟨q1, q2, q3⟩
    · exact Or.inl q
    · refine Or.inr ⟨Nat.lt_succ_of_lt q1, q2, ?_⟩
      show mI B 72 (5 * (8 * l + p) + w) = (if w < 3 then zI (sgI w (vnF (if l = sNl s then L else sLs s l) (sPs s p) w false (stG (if l = sNl s then L else sLs s l) (sPs s p)))) else if w = 3 then zI (vnF (if l = sNl s then L else sLs s l) (sPs s p) 0 true (stG (if l = sNl s then L else sLs s l) (sPs s p))) else edI (if l = sNl s then L else sLs s l) (sPs s p))
      rw [if_neg (show ¬ l = sNl s by omega)]; exact q3
  · refine ⟨fun b hb => (eo b (by omega)).trans (hse.1 b hb), fun l hl => ?_, fun p hp => ?_, fun g hg => ?_, by omega⟩
    · have hl : l < sNl s + 1 := hl
      by_cases z : l = sNl s
      · subst z
        rw [en]
        exact ⟨fun j hj => if_pos ⟨by omega, by omega⟩, by omega, fun q hq => by rw [em] at hq; cases hq⟩
      · rw [ep l (by omega), er l (by omega)]
        obtain ⟨o1, o2, o3⟩ := hse.2.1 l (by omega)
        refine ⟨fun j hj => (eo (aLa T l + j) (by omega)).trans (o1 j hj), by omega, fun q hq => ?_⟩
        obtain ⟨⟨w1, w2⟩, w3, w4, w5⟩ := o3 q hq
        exact ⟨⟨(eo _ w4).trans w1, (eo _ w5).trans w2⟩, w3, by omega, by omega⟩
    · obtain ⟨o1, o2⟩ := hse.2.2.1 p hp
      exact ⟨fun j hj => (eo (aPa T p + j) (by omega)).trans (o1 j hj), by show aPa T p + 2 < nx B; omega⟩
    · obtain ⟨o1, o2⟩ := hse.2.2.2.1 g hg
      exact ⟨fun j hj => (eo (aGa T g + j) (by omega)).trans (o1 j hj), by show aGa T g + 4 < nx B; omega⟩
end NEWL
