/-! THE STATE: tape, lands, protocols, games (land, protocol, moves) -/
abbrev StT : Type := (Nat × (Nat → Nat)) × (Nat × (Nat → LandT)) × (Nat × (Nat → ProT)) × (Nat × (Nat → Nat × Nat × List Nat))
def sZ (s : StT) : Nat := s.1.1
def sT (s : StT) : Nat → Nat := s.1.2
def sNl (s : StT) : Nat := s.2.1.1
def sLs (s : StT) : Nat → LandT := s.2.1.2
def sNp (s : StT) : Nat := s.2.2.1.1
def sPs (s : StT) : Nat → ProT := s.2.2.1.2
def sNg (s : StT) : Nat := s.2.2.2.1
def sGs (s : StT) : Nat → Nat × Nat × List Nat := s.2.2.2.2
def s0 : StT := ((0, fun _ => 0), (0, fun _ => L0 2 1), (0, fun _ => R0), (0, fun _ => (0, 0, [])))
/-- the game g as it stands -/
def gmO (s : StT) (g : Nat) : GamT := plG (sLs s (sGs s g).1) (sPs s (sGs s g).2.1) (sGs s g).2.2
/-- what holds of every state -/
def SOK (s : StT) : Prop := (sZ s ≤ 300 ∧ ∀ i, i < sZ s → 0 < sT s i ∧ sT s i < 256) ∧ (sNl s ≤ 6 ∧ ∀ l, l < sNl s → LdOK (sLs s l)) ∧ (sNp s ≤ 8 ∧ ∀ p, p < sNp s → ProOK (sPs s p)) ∧ sNg s ≤ 8 ∧ ∀ g, g < sNg s → (sGs s g).1 < sNl s ∧ (sGs s g).2.1 < sNp s ∧ lgM (sLs s (sGs s g).1) (sPs s (sGs s g).2.1) (sGs s g).2.2
def rPros (M : Mem) (np : Nat) (Ps : Nat → ProT) : Prop := mI M 75 16 = nI np ∧ ∀ p, p < np → rPro M p (Ps p)
def rGam (M : Mem) (g : Nat) (s : StT) : Prop := mI M 97 g = nI (sGs s g).1 ∧ mI M 98 g = nI (sGs s g).2.1 ∧ mI M 101 g = nI (sGs s g).2.2.length ∧ stL M 99 (12 * g) (sGs s g).2.2 ∧ ∀ k, k ≤ (sGs s g).2.2.length → mI M 100 (12 * g + k) = nI (gPh (plG (sLs s (sGs s g).1) (sPs s (sGs s g).2.1) ((sGs s g).2.2.take k)))
/-- the reference holds the state -/
def RI (M : Mem) (s : StT) : Prop := RfS M ∧ SOK s ∧ rT M (sZ s) (sT s) ∧ (mI M 75 12 = nI (sNl s) ∧ ∀ l, l < sNl s → rLd M l (sLs s l)) ∧ rPros M (sNp s) (sPs s) ∧ mI M 75 51 = nI (sNg s) ∧ ∀ g, g < sNg s → rGam M g s
/-- the reference's cells -/
def rfS (a k : Nat) : Prop := 75 ≤ a ∧ a ≤ 103
theorem sc_rf {M B : Mem} (h : Fr scS M B) : Fr rfS M B := h.mono (fun a k q => by unfold scS at q; unfold rfS; omega)
theorem RI.lds {M : Mem} {s : StT} (h : RI M s) : rLds M (sNl s) (sLs s) := ⟨h.2.2.2.1.1, h.2.1.2.1.1, fun l hl => ⟨h.2.1.2.1.2 l hl, h.2.2.2.1.2 l hl⟩⟩
theorem RI.fr {S : Nat → Nat → Prop} {M B : Mem} {s : StT} (h : RI M s) (hF : Fr S M B) (hS : ∀ a k, S a k → (77 ≤ a → a ≤ 86 → False) ∧ a ≠ 76 ∧ (97 ≤ a → a ≤ 101 → False) ∧ (a = 75 → k ≠ 2 ∧ k ≠ 12 ∧ k ≠ 16 ∧ k ≠ 51)) : RI B s := by
  obtain ⟨h1, h2, h3, h4, h5, h6, h7⟩ := h
  have n : ∀ a k, (77 ≤ a ∧ a ≤ 86) ∨ a = 76 ∨ (97 ≤ a ∧ a ≤ 101) ∨ (a = 75 ∧ (k = 2 ∨ k = 12 ∨ k = 16 ∨ k = 51)) → ¬ S a k := fun a k q z => by
    obtain ⟨z1, z2, z3, z4⟩ := hS a k z
    rcases q with q | q | q | q
    · exact z1 q.1 q.2
    · exact z2 q
    · exact z3 q.1 q.2
    · have := z4 q.1; omega
  refine ⟨h1.fr hF, h2, h3.fr hF (n _ _ (by omega)) (fun i => n _ _ (by omega)), ⟨(hF.at (n _ _ (by omega))).trans h4.1, fun l hl => (h4.2 l hl).fr hF (fun a i a1 a2 => n _ _ (by omega))⟩, ⟨(hF.at (n _ _ (by omega))).trans h5.1, fun p hp => (h5.2 p hp).fr hF (fun a i a1 a2 => n _ _ (by omega))⟩, (hF.at (n _ _ (by omega))).trans h6, fun g hg => ?_⟩
  obtain ⟨g1, g2, g3, g4, g5⟩ := h7 g hg
  exact ⟨(hF.at (n _ _ (by omega))).trans g1, (hF.at (n _ _ (by omega))).trans g2, (hF.at (n _ _ (by omega))).trans g3, g4.fr hF (fun k _ => n _ _ (by omega)), fun k hk => (hF.at (n _ _ (by omega))).trans (g5 k hk)⟩
theorem RI.sc {M B : Mem} {s : StT} (h : RI M s) (hF : Fr scS M B) : RI B s := h.fr hF (fun a k q => by unfold scS at q; omega)
theorem rLd.sl {M B : Mem} {l l' : Nat} {L : LandT} (h : rLd M l L) (hF : Fr (ldS l') M B) (hne : l ≠ l') : rLd B l L := by
  obtain ⟨g1, g2, g3, g4, g5⟩ := h
  refine ⟨(hF.at (by unfold ldS; omega)).trans g1, (hF.at (by unfold ldS; omega)).trans g2, (hF.at (by unfold ldS; omega)).trans g3, (hF.at (by unfold ldS; omega)).trans g4, fun p hp => ?_⟩
  obtain ⟨q1, q2, q3⟩ := g5 p hp
  exact ⟨fun k hk => (hF.at (by unfold ldS; omega)).trans (q1 k hk), (hF.at (by unfold ldS; omega)).trans q2, (hF.at (by unfold ldS; omega)).trans q3⟩
theorem rPro.sl {M B : Mem} {p p' : Nat} {P : ProT} (h : rPro M p P) (hO : P.1 ≤ 6) (hF : Fr (roS p') M B) (hne : p ≠ p') : rPro B p P :=
  ⟨(hF.at (by unfold roS; omega)).trans h.1, fun r hr => ⟨(hF.at (by unfold roS; omega)).trans (h.2 r hr).1, (hF.at (by unfold roS; omega)).trans (h.2 r hr).2⟩⟩
def poS (a k : Nat) : Prop := a = 75 ∧ (k = 3 ∨ k = 4)
theorem pst_fr {M : Mem} {w : Option Nat} {i : Nat} : Fr poS M (pst M w i) := by
  unfold pst
  exact (Fr.sI ⟨rfl, Or.inl rfl⟩).trans (Fr.sI ⟨rfl, Or.inr rfl⟩)
theorem poS_sc {M B : Mem} (h : Fr poS M B) : Fr scS M B := h.mono (fun a k q => by unfold poS at q; unfold scS; omega)
theorem ldS_rf {M B : Mem} {l : Nat} (h : Fr (ldS l) M B) : Fr rfS M B := h.mono (fun a k q => by unfold ldS at q; unfold rfS; omega)
theorem roS_rf {M B : Mem} {l : Nat} (h : Fr (roS l) M B) : Fr rfS M B := h.mono (fun a k q => by unfold roS at q; unfold rfS; omega)
theorem RI.ld {M B : Mem} {s : StT} {l' : Nat} (h : RI M s) (hF : Fr (ldS l') M B) (hl : sNl s ≤ l') : RI B s := by
  obtain ⟨h1, h2, h3, h4, h5, h6, h7⟩ := h
  refine ⟨h1.fr hF, h2, h3.fr hF ldS_T.1 ldS_T.2, ⟨(hF.at (by unfold ldS; omega)).trans h4.1, fun l hl' => (h4.2 l hl').sl hF (by omega)⟩, ⟨(hF.at (by unfold ldS; omega)).trans h5.1, fun p hp => (h5.2 p hp).fr hF (fun a i a1 a2 => by unfold ldS; omega)⟩, (hF.at (by unfold ldS; omega)).trans h6, fun g hg => ?_⟩
  obtain ⟨g1, g2, g3, g4, g5⟩ := h7 g hg
  exact ⟨(hF.at (by unfold ldS; omega)).trans g1, (hF.at (by unfold ldS; omega)).trans g2, (hF.at (by unfold ldS; omega)).trans g3, g4.fr hF (fun k _ => by unfold ldS; omega), fun k hk => (hF.at (by unfold ldS; omega)).trans (g5 k hk)⟩
theorem RI.ro {M B : Mem} {s : StT} {p' : Nat} (h : RI M s) (hF : Fr (roS p') M B) (hp' : sNp s ≤ p') : RI B s := by
  obtain ⟨h1, h2, h3, h4, h5, h6, h7⟩ := h
  refine ⟨h1.fr hF, h2, h3.fr hF roS_T.1 roS_T.2, ⟨(hF.at (by unfold roS; omega)).trans h4.1, fun l hl' => (h4.2 l hl').fr hF (fun a i a1 a2 => by unfold roS; omega)⟩, ⟨(hF.at (by unfold roS; omega)).trans h5.1, fun p hp => (h5.2 p hp).sl (h2.2.2.1.2 p hp).2.1 hF (by omega)⟩, (hF.at (by unfold roS; omega)).trans h6, fun g hg => ?_⟩
  obtain ⟨g1, g2, g3, g4, g5⟩ := h7 g hg
  exact ⟨(hF.at (by unfold roS; omega)).trans g1, (hF.at (by unfold roS; omega)).trans g2, (hF.at (by unfold roS; omega)).trans g3, g4.fr hF (fun k _ => by unfold roS; omega), fun k hk => (hF.at (by unfold roS; omega)).trans (g5 k hk)⟩
/-! bytes -/
/-- the byte j (0 the highest) of an int -/
def byB (x : Int32) (j : Nat) : Nat := x.toBitVec.toNat / 2 ^ (24 - 8 * j) % 256
theorem byB_lt (x : Int32) (j : Nat) : byB x j < 256 := Nat.mod_lt _ (by decide)
theorem shr_byte (x : Int32) {j : Nat} (hj : j < 4) : shr x (nI 24 - nI 8 * nI j) &&& nI 255 = nI (byB x j) := by
  have e255 : (nI 255).toBitVec.toNat = 2 ^ 8 - 1 := by decide
  rw [pk_and _ 8 e255]
  congr 1
  rw [pk_mul, na_sub (by omega)]
  unfold shr byB
  have hs : ((nI (24 - 8 * j) &&& 31).toBitVec.smod 32).toNat = 24 - 8 * j := s31 _ (by omega)
  have e1 := pk_shr x (nI (24 - 8 * j) &&& 31) (24 - 8 * j) hs
  rw [Int.shiftRight_eq_div_pow] at e1
  have b1 := x.toBitVec.isLt
  have b2 := (x >>> (nI (24 - 8 * j) &&& 31)).toBitVec.isLt
  have t1 : x.toInt = if 2 * x.toBitVec.toNat < 2 ^ 32 then (x.toBitVec.toNat : Int) else (x.toBitVec.toNat : Int) - ((2 ^ 32 : Nat) : Int) := BitVec.toInt_eq_toNat_cond _
  have t2 : (x >>> (nI (24 - 8 * j) &&& 31)).toInt = if 2 * (x >>> (nI (24 - 8 * j) &&& 31)).toBitVec.toNat < 2 ^ 32 then ((x >>> (nI (24 - 8 * j) &&& 31)).toBitVec.toNat : Int) else ((x >>> (nI (24 - 8 * j) &&& 31)).toBitVec.toNat : Int) - ((2 ^ 32 : Nat) : Int) := BitVec.toInt_eq_toNat_cond _
  rw [t1, t2] at e1
  generalize (x >>> (nI (24 - 8 * j) &&& 31)).toBitVec.toNat = w at *
  generalize x.toBitVec.toNat = n at *
  have p32 : (2 : Nat) ^ 32 = 4294967296 := rfl
  rw [p32] at *
  rcases (show j = 0 ∨ j = 1 ∨ j = 2 ∨ j = 3 by omega) with rfl | rfl | rfl | rfl
  · have e24 : (2 : Int) ^ (24 - 8 * 0) = 16777216 := rfl
    have n24 : (2 : Nat) ^ (24 - 8 * 0) = 16777216 := rfl
    simp only [e24, n24] at *
    split at e1 <;> split at e1 <;> omega
  · have e24 : (2 : Int) ^ (24 - 8 * 1) = 65536 := rfl
    have n24 : (2 : Nat) ^ (24 - 8 * 1) = 65536 := rfl
    simp only [e24, n24] at *
    split at e1 <;> split at e1 <;> omega
  · have e24 : (2 : Int) ^ (24 - 8 * 2) = 256 := rfl
    have n24 : (2 : Nat) ^ (24 - 8 * 2) = 256 := rfl
    simp only [e24, n24] at *
    split at e1 <;> split at e1 <;> omega
  · have e24 : (2 : Int) ^ (24 - 8 * 3) = 1 := rfl
    have n24 : (2 : Nat) ^ (24 - 8 * 3) = 1 := rfl
    simp only [e24, n24] at *
    split at e1 <;> split at e1 <;> omega
/-- the byte k of twenty -/
def byF (a b c d e : Int32) (k : Nat) : Nat := byB (if k < 4 then a else if k < 8 then b else if k < 12 then c else if k < 16 then d else e) (k % 4)
def byL (a b c d e : Int32) (n : Nat) : List Nat := ((List.range n).map (byF a b c d e)).filter (fun x => decide (x ≠ 0))
def tpA (t : Nat → Nat) (z : Nat) (xs : List Nat) (i : Nat) : Nat := if i < z then t i else xs.getD (i - z) 0
theorem byL_succ (a b c d e : Int32) (n : Nat) : byL a b c d e (n + 1) = byL a b c d e n ++ (if byF a b c d e n = 0 then [] else [byF a b c d e n]) := by
  unfold byL
  rw [List.range_succ, List.map_append, List.filter_append]
  congr 1
  simp only [List.map_cons, List.map_nil, List.filter_cons, List.filter_nil]
  by_cases h : byF a b c d e n = 0
  · simp [h]
  · simp [h]
theorem byL_len (a b c d e : Int32) (n : Nat) : (byL a b c d e n).length ≤ n := by
  have := List.length_filter_le (fun x => decide (x ≠ 0)) ((List.range n).map (byF a b c d e))
  rw [List.length_map, List.length_range] at this
  exact this
section ST
variable {X : Cx} {s : StT} {M : Mem} {Q : Option AV → Mem → Prop}
theorem sp_byteOf {dd k : Nat} {a b c d e : Int32} (hk : k < 20) (h : Q (some (vI (nI (byF a b c d e k)))) M) : Cl X dd 0 0 m_X11_byteOf [vI a, vI b, vI c, vI d, vI e, vI (nI k)] M Q := by
  have hm := Nat.mod_lt k (show 0 < 4 by decide)
  have h45 : ∀ x : Int32, x = (if k < 4 then a else if k < 8 then b else if k < 12 then c else if k < 16 then d else e) → WA X dd 0 0 m_X11_byteOf 45 [none, none, none, none, none, some (vI (nI k)), none] [vI x] M Q := fun x hx => by
    refine b_X11_byteOf_45 ?_
    rw [na_rem (by omega) (by decide) (by decide), shr_byte x hm, hx]
    exact h
  refine e_X11_byteOf (b_X11_byteOf_0 ⟨fun q => ⟨fun q2 => ⟨fun q3 => ⟨fun q4 => h45 _ ?_, fun q4 => h45 _ ?_⟩, fun q3 => h45 _ ?_⟩, fun q2 => h45 _ ?_⟩, fun q => h45 _ ?_⟩)
  · rw [na_le (by omega) (by omega)] at q q2 q3 q4
    rw [if_neg (by omega), if_neg (by omega), if_neg (by omega), if_neg (by omega)]
  · rw [na_le (by omega) (by omega)] at q q2 q3 q4
    rw [if_neg (by omega), if_neg (by omega), if_neg (by omega), if_pos (by omega)]
  · rw [na_le (by omega) (by omega)] at q q2 q3
    rw [if_neg (by omega), if_neg (by omega), if_pos (by omega)]
  · rw [na_le (by omega) (by omega)] at q q2
    rw [if_neg (by omega), if_pos (by omega)]
  · rw [na_le (by omega) (by omega)] at q
    rw [if_pos (by omega)]
def fedS (s : StT) (a b c d e : Int32) : StT := if sZ s + (byL a b c d e 20).length ≤ 300 then ((sZ s + (byL a b c d e 20).length, tpA (sT s) (sZ s) (byL a b c d e 20)), s.2) else s
def aFeed (s : StT) (a b c d e : Int32) : Int32 := if sZ s + (byL a b c d e 20).length ≤ 300 then nI (sZ s + (byL a b c d e 20).length) else -1
theorem tpA_snoc {t : Nat → Nat} {z : Nat} {xs : List Nat} {v i : Nat} : tpA t z (xs ++ [v]) i = if i = z + xs.length then v else tpA t z xs i := by
  unfold tpA
  by_cases h1 : i < z
  · rw [if_pos h1, if_neg (by omega), if_pos h1]
  · rw [if_neg h1, if_neg h1]
    simp only [List.getD]
    by_cases h2 : i = z + xs.length
    · rw [if_pos h2, h2, Nat.add_sub_cancel_left]; simp
    · rw [if_neg h2]
      by_cases h3 : i - z < xs.length
      · rw [List.getElem?_append_left h3]
      · rw [List.getElem?_append_right (by omega), List.getElem?_eq_none (by simp; omega), List.getElem?_eq_none (by omega)]
theorem rT_app {z : Nat} {t : Nat → Nat} {xs : List Nat} {v : Nat} {B B2 : Mem} (h : rT B (z + xs.length) (tpA t z xs)) (hv : 0 < v ∧ v < 256) (hz : z + xs.length < 300) (h2 : mI B2 75 2 = nI (z + xs.length + 1)) (h61 : ∀ i, mI B2 76 i = if i = z + xs.length then nI v else mI B 76 i) : rT B2 (z + (xs ++ [v]).length) (tpA t z (xs ++ [v])) := by
  obtain ⟨a1, a2, a3⟩ := h
  refine ⟨by rw [h2, List.length_append]; rfl, by simp; omega, fun i hi => ?_⟩
  simp at hi
  rw [h61, tpA_snoc]
  by_cases hq : i = z + xs.length
  · rw [if_pos hq, if_pos hq]; exact ⟨rfl, hv⟩
  · rw [if_neg hq, if_neg hq]; exact a3 i (by omega)
theorem rf_feed {dd : Nat} {a b c d e : Int32} (hd : 2 ≤ dd) (hR : RI M s) (h : ∀ B, Fr rfS M B → RI B (fedS s a b c d e) → Q (some (vI (aFeed s a b c d e))) B) : Cl X dd 0 0 m_X11_feed [vR 75, vI a, vI b, vI c, vI d, vI e] M Q := by
  have hR0 := hR
  obtain ⟨h1, h2, h3, h4, h5, h6, h7⟩ := hR
  have hz := h3.2.1
  have second : sZ s + (byL a b c d e 20).length ≤ 300 → ∀ r k (B : Mem), k + r = 20 → Fr (fun a k => a = 76 ∨ (a = 75 ∧ k = 2)) M B → rT B (sZ s + (byL a b c d e k).length) (tpA (sT s) (sZ s) (byL a b c d e k)) → (byL a b c d e k).length ≤ (byL a b c d e 20).length →
      WA X dd 0 0 m_X11_feed 62 [some (vR 75), some (vI a), some (vI b), some (vI c), some (vI d), some (vI e), none, some (vI (nI k)), none] [] B Q := by
    intro hfit r
    induction r with
    | zero =>
      intro k B hk hF hT _
      obtain rfl : k = 20 := by omega
      have hSB := h1.fr hF
      refine b_X11_feed_62 hSB (by omega) ⟨fun _ => ?_, fun q => absurd (by decide) q⟩
      rw [hT.1]
      unfold fedS aFeed at h
      rw [if_pos hfit, if_pos hfit] at h
      refine h B (hF.mono (fun a k q => by unfold rfS; omega)) ⟨hSB, ⟨⟨hfit, fun i hi => (hT.2.2 i hi).2⟩, h2.2⟩, hT, ⟨(hF.at (by omega)).trans h4.1, fun l hl => (h4.2 l hl).fr hF (fun a i a1 a2 q => by omega)⟩, ⟨(hF.at (by omega)).trans h5.1, fun p hp => (h5.2 p hp).fr hF (fun a i a1 a2 q => by omega)⟩, (hF.at (by omega)).trans h6, fun g hg => ?_⟩
      obtain ⟨g1, g2, g3, g4, g5⟩ := h7 g hg
      exact ⟨(hF.at (by omega)).trans g1, (hF.at (by omega)).trans g2, (hF.at (by omega)).trans g3, g4.fr hF (fun k _ => by omega), fun k hk => (hF.at (by omega)).trans (g5 k hk)⟩
    | succ r ih =>
      intro k B hk hF hT hle
      have hSB := h1.fr hF
      have hby := byB_lt (if k < 4 then a else if k < 8 then b else if k < 12 then c else if k < 16 then d else e) (k % 4)
      have hby : byF a b c d e k < 256 := hby
      have hle2 : ∀ j, (byL a b c d e (20 - j)).length ≤ (byL a b c d e 20).length := fun j => by
        have key : ∀ m n, (byL a b c d e n).length ≤ (byL a b c d e (n + m)).length := fun m n => by
          induction m with
          | zero => exact Nat.le_refl _
          | succ m im =>
            rw [← Nat.add_assoc, byL_succ, List.length_append]; omega
        by_cases hj : j ≤ 20
        · have := key j (20 - j); rwa [Nat.sub_add_cancel hj] at this
        · have : 20 - j = 0 := by omega
          rw [this]; show 0 ≤ _; omega
      have hk1 := hle2 (20 - (k + 1))
      rw [show 20 - (20 - (k + 1)) = k + 1 by omega] at hk1
      refine b_X11_feed_62 hSB (by omega) ⟨fun q => ?_, fun _ => sp_byteOf (by omega) ⟨_, rfl, Ext.refl _, fun q => ?_, fun q => ?_⟩⟩
      · rw [na_le (by omega) (by omega)] at q; omega
      · rw [na_eq (by omega) (by omega)] at q
        rw [nI_add]
        refine ih (k + 1) B (by omega) hF ?_ hk1
        rw [byL_succ, if_pos q, List.append_nil]; exact hT
      · rw [na_eq (by omega) (by omega)] at q
        have hlen : (byL a b c d e (k + 1)).length = (byL a b c d e k).length + 1 := by rw [byL_succ, if_neg q, List.length_append]; rfl
        rw [hT.1]
        refine ⟨na_in (by omega) (by omega), fun M2 e2 M3 e3 => ?_⟩
        rw [na_ix (by omega)] at e2
        rw [nI_add]
        have e22 : mI M2 75 2 = nI (sZ s + (byL a b c d e k).length) := by rw [e2, mI_sI_a (by decide)]; exact hT.1
        refine ih (k + 1) M3 (by omega) ?_ ?_ hk1
        · rw [e3, e2]; exact (hF.trans (Fr.sI (Or.inl rfl))).trans (Fr.sI (Or.inr ⟨rfl, rfl⟩))
        · rw [byL_succ, if_neg q]
          refine rT_app hT ⟨by omega, hby⟩ (by omega) ?_ (fun i => ?_)
          · rw [e3, mI_sI_eq, e22, nI_add]
          · rw [e3, mI_sI_a (by decide), e2, mI_sI]
            by_cases hq : i = sZ s + (byL a b c d e k).length
            · rw [if_pos ⟨rfl, hq⟩, if_pos hq]
            · rw [if_neg (fun z => hq z.2), if_neg hq]
  have first : ∀ r k, k + r = 20 → WA X dd 0 0 m_X11_feed 6 [some (vR 75), some (vI a), some (vI b), some (vI c), some (vI d), some (vI e), some (vI (nI (byL a b c d e k).length)), some (vI (nI k)), none] [] M Q := by
    intro r
    induction r with
    | zero =>
      intro k hk
      obtain rfl : k = 20 := by omega
      have hlen := byL_len a b c d e 20
      refine b_X11_feed_6 h1 (by omega) ⟨fun _ => ?_, fun q => absurd (by decide) q⟩
      rw [h3.1, nI_add]
      refine ⟨fun q => ?_, fun q => ?_⟩
      · rw [na_le (by omega) (by omega)] at q
        refine second q 20 0 M (by omega) Fr.refl ?_ (by show 0 ≤ _; omega)
        obtain ⟨t1, t2, t3⟩ := h3
        refine ⟨t1, t2, fun i hi => ?_⟩
        have hi : i < sZ s := hi
        unfold tpA
        rw [if_pos hi]; exact t3 i hi
      · rw [na_le (by omega) (by omega)] at q
        have h9 := h M Fr.refl
        unfold fedS aFeed at h9
        rw [if_neg q, if_neg q] at h9
        exact h9 hR0
    | succ r ih =>
      intro k hk
      have hlen := byL_len a b c d e k
      have hby := byB_lt (if k < 4 then a else if k < 8 then b else if k < 12 then c else if k < 16 then d else e) (k % 4)
      have hby : byF a b c d e k < 256 := hby
      have hn := ih (k + 1) (by omega)
      rw [byL_succ] at hn
      refine b_X11_feed_6 h1 (by omega) ⟨fun q => ?_, fun _ => sp_byteOf (by omega) ⟨_, rfl, Ext.refl _, fun q x2 e2 => ?_, fun q x3 e3 => ?_⟩⟩
      · rw [na_le (by omega) (by omega)] at q; omega
      · rw [na_eq (by omega) (by omega)] at q
        rw [if_pos q, List.append_nil] at hn
        rw [e2, add0, nI_add]; exact hn
      · rw [na_eq (by omega) (by omega)] at q
        rw [if_neg q, List.length_append] at hn
        rw [e3, nI_add, nI_add]; exact hn
  exact e_X11_feed (b_X11_feed_0 h1 (first 20 0 (by omega)))
def endS (s : StT) (n : Int32) : StT := match inN n (sZ s + 1) with
  | none => s
  | some k => ((k, sT s), s.2)
def aEnd (s : StT) (n : Int32) : Int32 := bI (inN n (sZ s + 1)).isSome
theorem rf_end {dd : Nat} {n : Int32} (hR : RI M s) (h : ∀ B, Fr rfS M B → RI B (endS s n) → Q (some (vI (aEnd s n))) B) : Cl X dd 0 0 m_X11_end [vR 75, vI n] M Q := by
  have hR0 := hR
  obtain ⟨h1, h2, h3, h4, h5, h6, h7⟩ := hR
  have hz := h3.2.1
  unfold endS aEnd at h
  have bad : inN n (sZ s + 1) = none → Q (some (vI (nI 0))) M := fun hn => by
    rw [hn] at h; exact h M Fr.refl hR0
  refine e_X11_end (b_X11_end_0 h1 ⟨fun q => bad (inN_neg q), fun q => ?_⟩)
  obtain ⟨k, rfl, hk⟩ := nat_of q
  rw [h3.1]
  refine ⟨fun q2 M1 e1 => ?_, fun q2 => ?_⟩
  · rw [na_le (by omega) (by omega)] at q2
    rw [inN_nI (by omega) (show k < sZ s + 1 by omega)] at h
    have hF : Fr (fun a k => a = 75 ∧ k = 2) M M1 := by rw [e1]; exact Fr.sI ⟨rfl, rfl⟩
    obtain ⟨t1, t2, t3⟩ := h3
    refine h M1 (hF.mono (fun a k q => by unfold rfS; omega)) ⟨h1.fr hF, ⟨⟨by show k ≤ 300; omega, fun i hi => (t3 i (by have hi : i < k := hi; omega)).2⟩, h2.2⟩, ⟨by rw [e1, mI_sI_eq]; rfl, by show k ≤ 300; omega, fun i hi => by rw [hF.at (by omega)]; exact t3 i (by have hi : i < k := hi; omega)⟩, ⟨(hF.at (by omega)).trans h4.1, fun l hl => (h4.2 l hl).fr hF (fun a i a1 a2 q => by omega)⟩, ⟨(hF.at (by omega)).trans h5.1, fun p hp => (h5.2 p hp).fr hF (fun a i a1 a2 q => by omega)⟩, (hF.at (by omega)).trans h6, fun g hg => ?_⟩
    obtain ⟨g1, g2, g3, g4, g5⟩ := h7 g hg
    exact ⟨(hF.at (by omega)).trans g1, (hF.at (by omega)).trans g2, (hF.at (by omega)).trans g3, g4.fr hF (fun k _ => by omega), fun k hk => (hF.at (by omega)).trans (g5 k hk)⟩
  · rw [na_le (by omega) (by omega)] at q2
    exact bad (inN_nI_none hk (by omega))
def aFault (s : StT) (n : Int32) : Int32 := if n = nI 0 then oI (landT (sZ s) (sT s)).1 else if n = nI 1 then oI (protT (sZ s) (sT s)).1 else -2
theorem rf_fault {dd : Nat} {n : Int32} (hd : 8 ≤ dd) (hR : RI M s) (h : ∀ B, Fr rfS M B → RI B s → Q (some (vI (aFault s n))) B) : Cl X dd 0 0 m_X11_fault [vR 75, vI n] M Q := by
  have hl := hR.2.1.2.1.1
  have hp := hR.2.1.2.2.1.1
  unfold aFault at h
  refine e_X11_fault (b_X11_fault_0 hR.1 (by omega) ⟨fun q => ⟨fun q2 => ?_, fun q2 => ?_⟩, fun q => ?_⟩)
  · rw [if_neg q, if_neg q2] at h; exact h M Fr.refl hR
  · rw [if_neg q, if_pos q2] at h
    refine sp_readProtocol (by omega) hR.1 hR.2.2.1 (by omega) (fun B j hF _ => ⟨_, rfl, hF.ext.trans pst_fr.ext, ?_⟩)
    exact h _ ((roS_rf hF).trans (sc_rf (poS_sc pst_fr))) ((hR.ro hF (by omega)).sc (poS_sc pst_fr))
  · rw [if_pos q] at h
    refine sp_readLand (by omega) hR.1 hR.2.2.1 (by omega) (fun B j hF _ => ⟨_, rfl, hF.ext.trans pst_fr.ext, ?_⟩)
    exact h _ ((ldS_rf hF).trans (sc_rf (poS_sc pst_fr))) ((hR.ld hF (by omega)).sc (poS_sc pst_fr))
def landS (s : StT) : StT := if sNl s = 6 then s else match (landT (sZ s) (sT s)).1 with
  | some _ => s
  | none => ((0, sT s), (sNl s + 1, fun l => if l = sNl s then (landT (sZ s) (sT s)).2 else sLs s l), s.2.2)
def aLand (s : StT) : Int32 := if sNl s = 6 then -1 else match (landT (sZ s) (sT s)).1 with
  | some _ => -1
  | none => nI (sNl s)
theorem landT_w (z : Nat) (t : Nat → Nat) (hz : z ≤ 300) : wOk (landT z t).1 := by
  have key : ∀ (f : Nat) (w : Option Nat) (i : Nat) (L : LandT), wOk w → (w = none → i ≤ z ∧ LdOK L) → wOk (sentsT z t f w i L).1 := by
    intro f
    induction f with
    | zero => intro w i L hw _; exact hw
    | succ f ih =>
      intro w i L hw hL
      cases w with
      | some e => exact hw
      | none =>
        obtain ⟨hi, hLo⟩ := hL rfl
        have b := skp_le z t i
        unfold sentsT
        split
        · refine ih _ _ _ (sentT_w hz (by omega)) (fun hn => ?_)
          obtain ⟨q1, q2, q3⟩ := sentT_ok hLo hn
          exact ⟨q2, q3⟩
        · split
          · intro e he; cases he; omega
          · intro e he; cases he
  unfold landT
  dsimp only
  have wn : wOk none := fun _ q => by cases q
  have b1 := numT_le z t 2 9 none none 0
  have w1 := numT_w (low := 2) (high := 9) (but := none) (t := t) hz (show 0 < 2 ^ 19 by decide) wn
  have b2 := signT_le z t 47 (numT z t 2 9 none none 0).2.1 (numT z t 2 9 none none 0).2.2
  have w2 := signT_w (c := 47) (t := t) hz (show (numT z t 2 9 none none 0).2.2 < 2 ^ 19 by omega) w1
  have b3 := numT_le z t 1 (min 4 (numT z t 2 9 none none 0).1) none (signT z t 47 (numT z t 2 9 none none 0).2.1 (numT z t 2 9 none none 0).2.2).1 (signT z t 47 (numT z t 2 9 none none 0).2.1 (numT z t 2 9 none none 0).2.2).2
  have w3 := numT_w (low := 1) (high := min 4 (numT z t 2 9 none none 0).1) (but := none) (t := t) hz (show (signT z t 47 (numT z t 2 9 none none 0).2.1 (numT z t 2 9 none none 0).2.2).2 < 2 ^ 19 by omega) w2
  refine key _ _ _ _ w3 (fun hn => ?_)
  have hs : (signT z t 47 (numT z t 2 9 none none 0).2.1 (numT z t 2 9 none none 0).2.2).1 = none := by
    cases q : (signT z t 47 (numT z t 2 9 none none 0).2.1 (numT z t 2 9 none none 0).2.2).1 with
    | none => rfl
    | some f => rw [q] at hn; unfold numT at hn; cases hn
  have h1 : (numT z t 2 9 none none 0).2.1 = none := by
    cases q : (numT z t 2 9 none none 0).2.1 with
    | none => rfl
    | some f => rw [q] at hs; unfold signT at hs; cases hs
  have ok1 := numT_ok h1
  rw [hs] at hn ⊢
  have ok3 := numT_ok hn
  exact ⟨ok3.2.2.2.2, L0_ok ⟨ok1.1, ok1.2.1⟩ ⟨ok3.1, by omega, by omega⟩⟩
theorem protT_w (z : Nat) (t : Nat → Nat) (hz : z ≤ 300) : wOk (protT z t).1 := by
  have key : ∀ (f : Nat) (w : Option Nat) (i : Nat) (R : ProT), wOk w → (w = none → i ≤ z) → wOk (rdsT z t f w i R).1 := by
    intro f
    induction f with
    | zero => intro w i L hw _; exact hw
    | succ f ih =>
      intro w i L hw hL
      cases w with
      | some e => exact hw
      | none =>
        have hi := hL rfl
        have b := skp_le z t i
        unfold rdsT
        split
        · exact ih _ _ _ (rdT_w hz (by omega)) (fun hn => (rdT_go hn).2.1)
        · split
          · intro e he; cases he; omega
          · intro e he; cases he
  exact key _ _ _ _ (rdT_w hz (by decide)) (fun hn => (rdT_go hn).2.1)
theorem rf_land {dd : Nat} (hd : 8 ≤ dd) (hR : RI M s) (h : ∀ B, Fr rfS M B → RI B (landS s) → Q (some (vI (aLand s))) B) : Cl X dd 0 0 m_X11_land [vR 75] M Q := by
  have hl := hR.2.1.2.1.1
  have hz := hR.2.1.1.1
  have hlw := landT_w (sZ s) (sT s) hz
  unfold landS aLand at h
  refine e_X11_land (b_X11_land_0 hR.1 (by omega) ?_)
  rw [hR.2.2.2.1.1, na_eq (by omega) (by omega)]
  refine ⟨fun q => ?_, fun q => ?_⟩
  · rw [if_pos q, if_pos q] at h; exact h M Fr.refl hR
  · rw [if_neg q, if_neg q] at h
    refine sp_readLand (by omega) hR.1 hR.2.2.1 (by omega) (fun B j hF hB => ⟨_, rfl, hF.ext.trans pst_fr.ext, fun q2 M2 e2 M3 e3 => ?_, fun q2 => ?_⟩)
    · rw [oI_none (fun f hf => by have := hlw f hf; omega)] at q2
      rw [q2] at h
      obtain ⟨hLo, hLd⟩ := hB q2
      have hRB := (hR.ld hF (Nat.le_refl _)).sc (poS_sc (pst_fr (w := (landT (sZ s) (sT s)).1) (i := j)))
      have hLB : rLd (pst B (landT (sZ s) (sT s)).1 j) (sNl s) (landT (sZ s) (sT s)).2 := hLd.fr pst_fr (fun a i a1 a2 z => by unfold poS at z; omega)
      have hFB : Fr rfS M (pst B (landT (sZ s) (sT s)).1 j) := (ldS_rf hF).trans (sc_rf (poS_sc pst_fr))
      generalize pst B (landT (sZ s) (sT s)).1 j = B1 at hRB hLB hFB e2
      obtain ⟨h1, h2, h3, h4, h5, h6, h7⟩ := hRB
      have e212 : mI M2 75 12 = nI (sNl s) := by rw [e2, mI_sI_i (by decide)]; exact h4.1
      have hF3 : Fr (fun a k => a = 75 ∧ (k = 2 ∨ k = 12)) B1 M3 := by rw [e3, e2]; exact (Fr.sI ⟨rfl, Or.inl rfl⟩).trans (Fr.sI ⟨rfl, Or.inr rfl⟩)
      have e312 : mI M3 75 12 = nI (sNl s + 1) := by rw [e3, mI_sI_eq, e212, nI_add]
      rw [e312, na_sub (by omega), Nat.add_sub_cancel]
      have hL' : ∀ l, l < sNl s + 1 → LdOK (if l = sNl s then (landT (sZ s) (sT s)).2 else sLs s l) := fun l hl' => by
        by_cases hq : l = sNl s
        · rw [if_pos hq]; exact hLo
        · rw [if_neg hq]; exact h2.2.1.2 l (by omega)
      refine h M3 (hFB.trans (hF3.mono (fun a k z => by unfold rfS; omega))) ⟨h1.fr hF3, ⟨⟨by show 0 ≤ 300; omega, fun i hi => by have hi : i < 0 := hi; omega⟩, ⟨by show sNl s + 1 ≤ 6; omega, hL'⟩, h2.2.2.1, h2.2.2.2.1, fun g hg => ?_⟩, ⟨by rw [e3, mI_sI_i (by decide), e2, mI_sI_eq]; rfl, by show 0 ≤ 300; omega, fun i hi => by have hi : i < 0 := hi; omega⟩, ⟨e312, fun l hl' => ?_⟩, ⟨(hF3.at (by omega)).trans h5.1, fun p hp => (h5.2 p hp).fr hF3 (fun a i a1 a2 z => by omega)⟩, (hF3.at (by omega)).trans h6, fun g hg => ?_⟩
      · obtain ⟨g1, g2, g3⟩ := h2.2.2.2.2 g hg
        refine ⟨by show (sGs s g).1 < sNl s + 1; omega, g2, ?_⟩
        show lgM (if (sGs s g).1 = sNl s then _ else sLs s (sGs s g).1) _ _
        rw [if_neg (by omega)]; exact g3
      · show rLd M3 l (if l = sNl s then (landT (sZ s) (sT s)).2 else sLs s l)
        by_cases hq : l = sNl s
        · rw [if_pos hq, hq]; exact hLB.fr hF3 (fun a i a1 a2 z => by omega)
        · rw [if_neg hq]
          exact (h4.2 l (by have hl' : l < sNl s + 1 := hl'; omega)).fr hF3 (fun a i a1 a2 z => by omega)
      · obtain ⟨g1, g2, g3, g4, g5⟩ := h7 g hg
        obtain ⟨y1, -, -⟩ := h2.2.2.2.2 g hg
        refine ⟨(hF3.at (by omega)).trans g1, (hF3.at (by omega)).trans g2, (hF3.at (by omega)).trans g3, g4.fr hF3 (fun k _ => by omega), fun k hk => ?_⟩
        show _ = nI (gPh (plG (if (sGs s g).1 = sNl s then _ else sLs s (sGs s g).1) _ _))
        rw [if_neg (by omega), hF3.at (by omega)]
        exact g5 k hk
    · rw [oI_none (fun f hf => by have := hlw f hf; omega)] at q2
      cases hc : (landT (sZ s) (sT s)).1 with
      | none => exact absurd hc q2
      | some f =>
        rw [hc] at h
        exact h _ ((ldS_rf hF).trans (sc_rf (poS_sc pst_fr))) ((hR.ld hF (Nat.le_refl _)).sc (poS_sc pst_fr))
end ST
