/-! THE CLASS: feeding the tape -/
def shK (k : Nat) : Int32 := if k = 0 then nI 24 else if k = 1 then nI 16 else if k = 2 then nI 8 else if k = 3 then nI 0 else (-8)
theorem ushr_byte (x : Int32) {j : Nat} (hj : j < 4) : ushr x (shK j) &&& nI 255 = nI (byB x j) := by
  have e255 : (nI 255).toBitVec.toNat = 2 ^ 8 - 1 := by decide
  rw [pk_and _ 8 e255]
  congr 1
  unfold ushr byB
  rcases (show j = 0 ∨ j = 1 ∨ j = 2 ∨ j = 3 by omega) with rfl | rfl | rfl | rfl
  · rw [pk_ushr x (shK 0) 24 (by decide)]
  · rw [pk_ushr x (shK 1) 16 (by decide)]
  · rw [pk_ushr x (shK 2) 8 (by decide)]
  · rw [pk_ushr x (shK 3) 0 (by decide)]
theorem shK_s {k : Nat} (h : k < 4) : shK k + (-8) = shK (k + 1) := by
  rcases (show k = 0 ∨ k = 1 ∨ k = 2 ∨ k = 3 by omega) with rfl | rfl | rfl | rfl <;> decide
theorem shK_n {k : Nat} (h : k < 4) : ¬ shK k < nI 0 := by
  rcases (show k = 0 ∨ k = 1 ∨ k = 2 ∨ k = 3 by omega) with rfl | rfl | rfl | rfl <;> decide
def wBn (x : Int32) (n : Nat) : List Nat := ((List.range n).map (byB x)).filter (fun y => decide (y ≠ 0))
theorem wBn_succ (x : Int32) (n : Nat) : wBn x (n + 1) = wBn x n ++ (if byB x n = 0 then [] else [byB x n]) := by
  unfold wBn
  rw [List.range_succ, List.map_append, List.filter_append]
  congr 1
  simp only [List.map_cons, List.map_nil, List.filter_cons, List.filter_nil]
  by_cases h : byB x n = 0
  · simp [h]
  · simp [h]
theorem wBn_len (x : Int32) (n : Nat) : (wBn x n).length ≤ n := by
  have := List.length_filter_le (fun y => decide (y ≠ 0)) ((List.range n).map (byB x))
  rw [List.length_map, List.length_range] at this
  exact this
theorem byL_w (a b c d e : Int32) : byL a b c d e 20 = (((wBn a 4 ++ wBn b 4) ++ wBn c 4) ++ wBn d 4) ++ wBn e 4 := by
  have : (List.range 20).map (byF a b c d e) = ((((List.range 4).map (byB a) ++ (List.range 4).map (byB b)) ++ (List.range 4).map (byB c)) ++ (List.range 4).map (byB d)) ++ (List.range 4).map (byB e) := rfl
  unfold byL wBn
  rw [this, List.filter_append, List.filter_append, List.filter_append, List.filter_append]
theorem tpA_app {t : Nat → Nat} {z : Nat} {xs ys : List Nat} : tpA (tpA t z xs) (z + xs.length) ys = tpA t z (xs ++ ys) := by
  funext i
  unfold tpA
  simp only [List.getD]
  by_cases h1 : i < z
  · rw [if_pos (by omega), if_pos h1, if_pos h1]
  · by_cases h2 : i < z + xs.length
    · rw [if_pos h2, if_neg h1, if_neg h1, List.getElem?_append_left (by omega)]
    · rw [if_neg h2, if_neg h1, List.getElem?_append_right (by omega), show i - z - xs.length = i - (z + xs.length) by omega]
def faS (a k : Nat) : Prop := a = 3 ∨ (a = 2 ∧ k = 1)
section FEED
variable {X : Cx} {d : Nat} {z : Nat} {t : Nat → Nat} {M : Mem} {Q : Option AV → Mem → Prop}
theorem kp_signsIn {x : Int32} (h : Q (some (vI (nI (wBn x 4).length))) M) : Cl X d 0 0 m_X9_signsIn [vI x] M Q := by
  have key : ∀ r k, k + r = 4 → WA X d 0 0 m_X9_signsIn 5 [some (vI x), some (vI (nI (wBn x k).length)), some (vI (shK k))] [] M Q := by
    intro r
    induction r with
    | zero =>
      intro k hk
      obtain rfl : k = 4 := by omega
      exact b_X9_signsIn_5 ⟨fun _ => h, fun q => absurd (by decide) q⟩
    | succ r ih =>
      intro k hk
      have hb := byB_lt x k
      have hn := ih (k + 1) (by omega)
      refine b_X9_signsIn_5 ⟨fun q => absurd q (shK_n (by omega)), fun _ => ?_⟩
      rw [ushr_byte x (by omega), na_eq (by omega) (by decide), shK_s (by omega)]
      refine ⟨fun q => ?_, fun q => ?_⟩
      · rw [wBn_succ, if_pos q, List.append_nil] at hn; exact hn
      · rw [wBn_succ, if_neg q, List.length_append] at hn
        rw [nI_add]; exact hn
  exact e_X9_signsIn (b_X9_signsIn_0 (key 4 0 (by omega)))
theorem kT_snoc {xs : List Nat} {v : Nat} {B : Mem} (h : kT B (z + xs.length) (tpA t z xs)) (hv : 0 < v ∧ v < 256) (hz : z + xs.length < 300) : kT (sI (sI B 3 (z + xs.length) (nI v)) 2 1 (nI (z + xs.length + 1))) (z + (xs ++ [v]).length) (tpA t z (xs ++ [v])) := by
  obtain ⟨a0, a1, a2, a3⟩ := h
  refine ⟨a0, by rw [mI_sI_eq, List.length_append]; rfl, by simp; omega, fun i hi => ?_⟩
  simp at hi
  rw [mI_sI_a (by decide), mI_sI, tpA_snoc]
  by_cases hq : i = z + xs.length
  · rw [if_pos ⟨rfl, hq⟩, if_pos hq]; exact ⟨rfl, hv⟩
  · rw [if_neg (fun z2 => hq z2.2), if_neg hq]; exact a3 i (by omega)
theorem kp_add {x : Int32} (hT : kT M z t) (hfit : z + (wBn x 4).length ≤ 300) (h : ∀ B, Fr faS M B → kT B (z + (wBn x 4).length) (tpA t z (wBn x 4)) → Q none B) : Cl X d 0 0 m_X9_add [vR 2, vI x] M Q := by
  have mono : ∀ r k, k + r = 4 → (wBn x k).length ≤ (wBn x 4).length := by
    intro r
    induction r with
    | zero =>
      intro k hk
      obtain rfl : k = 4 := by omega
      exact Nat.le_refl _
    | succ r ih =>
      intro k hk
      have := ih (k + 1) (by omega)
      rw [wBn_succ, List.length_append] at this
      omega
  have key : ∀ r k (B : Mem), k + r = 4 → Fr faS M B → kT B (z + (wBn x k).length) (tpA t z (wBn x k)) → WA X d 0 0 m_X9_add 3 [some (vR 2), some (vI x), some (vI (shK k)), none] [] B Q := by
    intro r
    induction r with
    | zero =>
      intro k B hk hF hTB
      obtain rfl : k = 4 := by omega
      exact b_X9_add_3 hTB.1 ⟨fun _ => h B hF hTB, fun q => absurd (by decide) q⟩
    | succ r ih =>
      intro k B hk hF hTB
      have hb := byB_lt x k
      have hm := mono r (k + 1) (by omega)
      rw [wBn_succ] at hm
      have hn := ih (k + 1)
      rw [wBn_succ] at hn
      refine b_X9_add_3 hTB.1 ⟨fun q => absurd q (shK_n (by omega)), fun _ x1 ex => ?_⟩
      rw [ushr_byte x (by omega)] at ex
      rw [ex, na_eq (by omega) (by decide), shK_s (by omega)]
      refine ⟨fun q => ?_, fun q => ?_⟩
      · rw [if_pos q, List.append_nil] at hn
        exact hn B (by omega) hF hTB
      · rw [if_neg q] at hn hm
        rw [List.length_append] at hm
        have hm : (wBn x k).length + 1 ≤ (wBn x 4).length := hm
        rw [hTB.2.1]
        refine ⟨fun q2 => ?_, fun q2 => ⟨na_in (by omega) (by omega), fun M1 e1 M2 e2 => ?_⟩⟩
        · rw [na_le (by omega) (by omega)] at q2; omega
        · rw [na_ix (by omega), show (2 : Nat) + 1 = 3 from rfl] at e1
          have hch : vp_nar .char (i2c (nI (byB x k))) = nI (byB x k) := by
            have e : i2c (nI (byB x k)) = nI (byB x k) := lg_i2c_small (by rw [nI_toInt (by omega)]; omega) (by rw [nI_toInt (by omega)]; omega)
            rw [e]; exact (nar_ch (by omega)).1
          rw [hch] at e1
          rw [e1, mI_sI_a (by decide), hTB.2.1, nI_add] at e2
          rw [e2]
          exact hn _ (by omega) (hF.trans ((Fr.sI (Or.inl rfl)).trans (Fr.sI (Or.inr ⟨rfl, rfl⟩)))) (kT_snoc hTB ⟨by omega, hb⟩ (by omega))
  refine e_X9_add (b_X9_add_0 hT.1 (key 4 0 M (by omega) Fr.refl ?_))
  have e0 : tpA t z (wBn x 0) = tpA t z [] := rfl
  have e1 : ∀ i, i < z → tpA t z [] i = t i := fun i hi => by unfold tpA; rw [if_pos hi]
  rw [e0]
  exact ⟨hT.1, hT.2.1, hT.2.2.1, fun i hi => by rw [e1 i hi]; exact hT.2.2.2 i hi⟩
theorem kp_feed {a b c d' e : Int32} (hd : 1 ≤ d) (hS : TpS M) (hT : kT M z t) (h1 : z + (byL a b c d' e 20).length ≤ 300 → ∀ B, Fr faS M B → kT B (z + (byL a b c d' e 20).length) (tpA t z (byL a b c d' e 20)) → Q (some (vI (nI (z + (byL a b c d' e 20).length)))) B)
    (h2 : ¬ z + (byL a b c d' e 20).length ≤ 300 → Q (some (vI (-1))) M) : Cl X d 0 0 m_X10_feed [vR 1, vI a, vI b, vI c, vI d', vI e] M Q := by
  have hz := hT.2.2.1
  have la := wBn_len a 4
  have lb := wBn_len b 4
  have lc := wBn_len c 4
  have ld := wBn_len d' 4
  have le := wBn_len e 4
  have hlen : (byL a b c d' e 20).length = (wBn a 4).length + (wBn b 4).length + (wBn c 4).length + (wBn d' 4).length + (wBn e 4).length := by rw [byL_w]; simp; omega
  refine e_X10_feed (b_X10_feed_0 hS hd (kp_signsIn ⟨_, rfl, Ext.refl _, kp_signsIn ⟨_, rfl, Ext.refl _, kp_signsIn ⟨_, rfl, Ext.refl _, kp_signsIn ⟨_, rfl, Ext.refl _, kp_signsIn ⟨_, rfl, Ext.refl _, fun x6 e6 => ?_⟩⟩⟩⟩⟩))
  rw [nI_add, nI_add, nI_add, nI_add, ← hlen] at e6
  rw [e6, hT.2.1, nI_add, na_le (by omega) (by omega)]
  refine ⟨fun q => ?_, fun q => h2 q⟩
  refine kp_add hT (by omega) (fun B1 F1 T1 => ⟨rfl, F1.ext, kp_add T1 (by omega) (fun B2 F2 T2 => ⟨rfl, F2.ext, kp_add T2 (by omega) (fun B3 F3 T3 => ⟨rfl, F3.ext, kp_add T3 (by omega) (fun B4 F4 T4 => ⟨rfl, F4.ext, kp_add T4 (by omega) (fun B5 F5 T5 => ⟨rfl, F5.ext, ?_⟩)⟩)⟩)⟩)⟩)
  have hl5 : z + (wBn a 4).length + (wBn b 4).length + (wBn c 4).length + (wBn d' 4).length + (wBn e 4).length = z + (byL a b c d' e 20).length := by omega
  have e2 : tpA (tpA t z (wBn a 4)) (z + (wBn a 4).length) (wBn b 4) = tpA t z (wBn a 4 ++ wBn b 4) := tpA_app
  rw [e2] at T5
  have e3 : tpA (tpA t z (wBn a 4 ++ wBn b 4)) (z + (wBn a 4).length + (wBn b 4).length) (wBn c 4) = tpA t z (wBn a 4 ++ wBn b 4 ++ wBn c 4) := by
    have := tpA_app (t := t) (z := z) (xs := wBn a 4 ++ wBn b 4) (ys := wBn c 4)
    rw [List.length_append, ← Nat.add_assoc] at this; exact this
  rw [e3] at T5
  have e4 : tpA (tpA t z (wBn a 4 ++ wBn b 4 ++ wBn c 4)) (z + (wBn a 4).length + (wBn b 4).length + (wBn c 4).length) (wBn d' 4) = tpA t z (wBn a 4 ++ wBn b 4 ++ wBn c 4 ++ wBn d' 4) := by
    have := tpA_app (t := t) (z := z) (xs := wBn a 4 ++ wBn b 4 ++ wBn c 4) (ys := wBn d' 4)
    rw [List.length_append, List.length_append, ← Nat.add_assoc, ← Nat.add_assoc] at this; exact this
  rw [e4] at T5
  have e5 : tpA (tpA t z (wBn a 4 ++ wBn b 4 ++ wBn c 4 ++ wBn d' 4)) (z + (wBn a 4).length + (wBn b 4).length + (wBn c 4).length + (wBn d' 4).length) (wBn e 4) = tpA t z (byL a b c d' e 20) := by
    have := tpA_app (t := t) (z := z) (xs := wBn a 4 ++ wBn b 4 ++ wBn c 4 ++ wBn d' 4) (ys := wBn e 4)
    rw [List.length_append, List.length_append, List.length_append, ← Nat.add_assoc, ← Nat.add_assoc, ← Nat.add_assoc] at this
    rw [this, byL_w]
  rw [e5, hl5] at T5
  have := h1 q B5 ((((F1.trans F2).trans F3).trans F4).trans F5) T5
  rw [T5.2.1]; exact this
end FEED
