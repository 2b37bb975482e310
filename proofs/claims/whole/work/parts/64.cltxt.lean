/-! THE CLASS: a land's text -/
section FILL
variable {X : Cx} {d : Nat} {M : Mem} {Q : Option AV → Mem → Prop}
theorem kp_fillR {a n lo hi : Nat} {v : Int32} (hk : isK M a 14 n) (hn : n < 2 ^ 20) (hhi : hi ≤ n) (hlo : lo ≤ hi) (hd : 1 ≤ d) (h : ∀ B, Fr (fun b k => b = a ∧ lo ≤ k ∧ k < hi) M B → (∀ i, lo ≤ i → i < hi → mI B a i = v) → Q none B) : Cl X d 0 0 m_J7_fill_fda19 [vR a, vI (nI lo), vI (nI hi), vI v] M Q := by
  have key : ∀ r k (B : Mem), k + r = hi → lo ≤ k → Fr (fun b k => b = a ∧ lo ≤ k ∧ k < hi) M B → (∀ i, lo ≤ i → i < k → mI B a i = v) → WA X d 0 0 m_J7_fill_fda19 10 [some (vR a), none, some (vI (nI hi)), some (vI v), some (vI (nI k))] [] B Q := by
    intro r
    induction r with
    | zero =>
      intro k B hk2 hlk hF hB
      obtain rfl : k = hi := by omega
      exact b_J7_fill_fda19_10 ⟨fun _ => h B hF hB, fun q => absurd (by rw [na_le (by omega) (by omega)]; exact Nat.le_refl _) q⟩
    | succ r ih =>
      intro k B hk2 hlk hF hB
      refine b_J7_fill_fda19_10 ⟨fun q => ?_, fun _ => ⟨n, hF.ext.1 _ _ _ hk, na_in (by omega) (by omega), fun M1 e1 => ?_⟩⟩
      · rw [na_le (by omega) (by omega)] at q; omega
      · rw [na_ix (by omega)] at e1
        rw [nI_add]
        refine ih (k + 1) M1 (by omega) (by omega) (by rw [e1]; exact hF.trans (Fr.sI ⟨rfl, hlk, by omega⟩)) (fun i hi1 hi2 => ?_)
        rw [e1, mI_sI]
        by_cases hq : i = k
        · rw [if_pos ⟨rfl, hq⟩]
        · rw [if_neg (fun z => hq z.2)]; exact hB i hi1 (by omega)
  refine e_J7_fill_fda19 (b_J7_fill_fda19_0 hd ⟨n, hk, e_J7_rangeCheck_23922 (b_J7_rangeCheck_23922_0 ⟨fun _ => ⟨fun _ => ⟨fun _ => ⟨rfl, Ext.refl _, key (hi - lo) lo M (by omega) (Nat.le_refl _) Fr.refl (fun i h1 h2 => by omega)⟩, fun q => q ?_⟩, fun q => q ?_⟩, fun q => q ?_⟩)⟩)
  · rw [na_le (by omega) (by omega)]; exact hhi
  · rw [na_le (by omega) (by omega)]; exact Nat.zero_le _
  · rw [na_le (by omega) (by omega)]; exact hlo
theorem kp_fill {a n : Nat} {v : Int32} (hk : isK M a 14 n) (hn : n < 2 ^ 20) (h : ∀ B, Fr (fun b k => b = a ∧ k < n) M B → (∀ i, i < n → mI B a i = v) → Q none B) : Cl X d 0 0 m_J7_fill_53178 [vR a, vI v] M Q := by
  have key : ∀ r k (B : Mem), k + r = n → Fr (fun b k => b = a ∧ k < n) M B → (∀ i, i < k → mI B a i = v) → WA X d 0 0 m_J7_fill_53178 5 [some (vR a), some (vI v), some (vI (nI k)), some (vI (nI n))] [] B Q := by
    intro r
    induction r with
    | zero =>
      intro k B hk2 hF hB
      obtain rfl : k = n := by omega
      exact b_J7_fill_53178_5 ⟨fun _ => h B hF hB, fun q => absurd (by rw [na_le (by omega) (by omega)]; exact Nat.le_refl _) q⟩
    | succ r ih =>
      intro k B hk2 hF hB
      refine b_J7_fill_53178_5 ⟨fun q => ?_, fun _ => ⟨n, hF.ext.1 _ _ _ hk, na_in (by omega) (by omega), fun M1 e1 => ?_⟩⟩
      · rw [na_le (by omega) (by omega)] at q; omega
      · rw [na_ix (by omega)] at e1
        rw [nI_add]
        refine ih (k + 1) M1 (by omega) (by rw [e1]; exact hF.trans (Fr.sI ⟨rfl, by omega⟩)) (fun i hi2 => ?_)
        rw [e1, mI_sI]
        by_cases hq : i = k
        · rw [if_pos ⟨rfl, hq⟩]
        · rw [if_neg (fun z => hq z.2)]; exact hB i (by omega)
  exact e_J7_fill_53178 (b_J7_fill_53178_0 ⟨n, hk, fun x1 e => by rw [e]; exact key n 0 M (by omega) Fr.refl (fun i hi => by omega)⟩)
end FILL
/-- what the reader of a land has read -/
def kL (M : Mem) (L : LandT) : Prop := mI M 4 0 = nI L.1 ∧ mI M 4 1 = nI L.2.1 ∧ mI M 4 2 = nI L.2.2.1 ∧ mI M 4 3 = nI L.2.2.2.1 ∧ ∀ p, p < 9 → (∀ k, k < 3 → mI M 5 (3 * p + k) = nI (LdV L p k)) ∧ mI M 6 p = nI (LdB L p) ∧ mI M 7 p = nI (LdT L p ||| 1 <<< p)
def lxS (a k : Nat) : Prop := (a = 4 ∧ k < 4) ∨ a = 5 ∨ a = 6 ∨ a = 7
theorem kL.fr {S : Nat → Nat → Prop} {M B : Mem} {L : LandT} (h : kL M L) (hF : Fr S M B) (hS : ∀ a k, 4 ≤ a → a ≤ 7 → ¬ S a k) : kL B L := by
  obtain ⟨h1, h2, h3, h4, h5⟩ := h
  refine ⟨(hF.at (hS _ _ (by decide) (by decide))).trans h1, (hF.at (hS _ _ (by decide) (by decide))).trans h2, (hF.at (hS _ _ (by decide) (by decide))).trans h3, (hF.at (hS _ _ (by decide) (by decide))).trans h4, fun p hp => ?_⟩
  obtain ⟨q1, q2, q3⟩ := h5 p hp
  exact ⟨fun k hk => (hF.at (hS _ _ (by decide) (by decide))).trans (q1 k hk), (hF.at (hS _ _ (by decide) (by decide))).trans q2, (hF.at (hS _ _ (by decide) (by decide))).trans q3⟩
theorem kL.k {M : Mem} {L : LandT} {w : Option Nat} {i : Nat} (h : kL M L) : kL (kst M w i) L := h.fr kst_fr (fun a k h1 h2 q => by unfold tpS at q; omega)
theorem lx_kT {M B : Mem} {z : Nat} {t : Nat → Nat} (h : kT M z t) (hF : Fr lxS M B) : kT B z t := h.fr hF (by unfold lxS; omega) (fun i => by unfold lxS; omega)
theorem numT_l {z : Nat} {t : Nat → Nat} {lo hi : Nat} {but : Option Nat} {i f : Nat} (h : num z t lo hi but i = .inl f) : (numT z t lo hi but none i).2.1 = some f := by unfold numT; dsimp only; rw [h]
theorem numT_r {z : Nat} {t : Nat → Nat} {lo hi : Nat} {but : Option Nat} {i v e : Nat} (h : num z t lo hi but i = .inr (v, e)) : numT z t lo hi but none i = (v, none, e) := by unfold numT; dsimp only; rw [h]
theorem num_ok {z : Nat} {t : Nat → Nat} {lo hi : Nat} {but : Option Nat} {i v e : Nat} (h : num z t lo hi but i = .inr (v, e)) : lo ≤ v ∧ v ≤ hi ∧ some v ≠ but ∧ i < e ∧ e ≤ z := by
  have r := numT_r h
  have := numT_ok (z := z) (t := t) (low := lo) (high := hi) (but := but) (i := i) (by rw [r])
  rw [r] at this
  dsimp only at this
  have s := skp_ge z t i
  exact ⟨this.1, this.2.1, this.2.2.1, by omega, this.2.2.2.2⟩
section LTXT
variable {X : Cx} {d : Nat} {z : Nat} {t : Nat → Nat} {M : Mem} {Q : Option AV → Mem → Prop}
theorem kp_clear (hS : LtS M 4) (hd : 1 ≤ d) (h : ∀ B, Fr lxS M B → (∀ n s, mI B 4 0 = nI n → mI B 4 1 = nI s → kL B (L0 n s)) → (∀ B2, Fr (fun a k => a = 4 ∧ k < 2) B B2 → ∀ n s, mI B2 4 0 = nI n → mI B2 4 1 = nI s → kL B2 (L0 n s)) → Q none B) : Cl X d 0 0 m_X4_clear [vR 4] M Q := by
  refine e_X4_clear (b_X4_clear_0 hS hd (fun M1 e1 M2 e2 => ?_))
  have hF2 : Fr lxS M M2 := by rw [e2, e1]; exact (Fr.sI (Or.inl ⟨rfl, by decide⟩)).trans (Fr.sI (Or.inl ⟨rfl, by decide⟩))
  have m2 : mI M2 4 2 = nI 0 := by rw [e2, mI_sI_i (by decide), e1, mI_sI_eq]
  have m3 : mI M2 4 3 = nI 999 := by rw [e2, mI_sI_eq]
  have hS2 := hS.ext hF2.ext
  refine kp_fill hS2.2.1.2 (by decide) (fun B hFB hB => ⟨rfl, hFB.ext, ?_⟩)
  have hSB := hS2.ext hFB.ext
  refine kp_fill hSB.2.2.1.2 (by decide) (fun C hFC hC => ⟨rfl, hFC.ext, ?_⟩)
  have hFC2 : Fr lxS M C := (hF2.trans (hFB.mono (fun a k q => Or.inr (Or.inl q.1)))).trans (hFC.mono (fun a k q => Or.inr (Or.inr (Or.inl q.1))))
  have key : ∀ r p (D : Mem), p + r = 9 → Fr (fun a k => a = 7) C D → (∀ i, i < p → mI D 7 i = nI (1 <<< i)) → WA X d 0 0 m_X4_clear 30 [some (vR 4), some (vI (nI p))] [] D Q := by
    intro r
    induction r with
    | zero =>
      intro p D hp hF hD
      obtain rfl : p = 9 := by omega
      have g : ∀ B2, Fr (fun a k => a = 4 ∧ k < 2) D B2 → ∀ n s, mI B2 4 0 = nI n → mI B2 4 1 = nI s → kL B2 (L0 n s) := fun B2 hF2' n s hn hs => by
        refine ⟨hn, hs, ?_, ?_, fun p hp => ⟨fun k hk => ?_, ?_, ?_⟩⟩
        · rw [hF2'.at (by omega), hF.at (by omega), hFC.at (by omega), hFB.at (by omega), m2]; rfl
        · rw [hF2'.at (by omega), hF.at (by omega), hFC.at (by omega), hFB.at (by omega), m3]; rfl
        · rw [hF2'.at (by omega), hF.at (by omega), hFC.at (by omega), hB _ (by omega)]; rfl
        · rw [hF2'.at (by omega), hF.at (by omega), hC _ (by omega)]; rfl
        · rw [hF2'.at (by omega), hD p (by omega)]
          show nI (1 <<< p) = nI (0 ||| 1 <<< p)
          rw [Nat.zero_or]
      have hFD : Fr lxS M D := hFC2.trans (hF.mono (fun a k q => Or.inr (Or.inr (Or.inr q))))
      exact b_X4_clear_30 (hS.ext hFD.ext) ⟨fun _ => h D hFD (g D Fr.refl) g, fun q => absurd (by decide) q⟩
    | succ r ih =>
      intro p D hp hF hD
      have hFD : Fr lxS M D := hFC2.trans (hF.mono (fun a k q => Or.inr (Or.inr (Or.inr q))))
      refine b_X4_clear_30 (hS.ext hFD.ext) ⟨fun q => ?_, fun _ => ⟨na_in (by omega) (by omega), fun N e => ?_⟩⟩
      · rw [na_le (by omega) (by omega)] at q; omega
      · rw [na_ix (by omega), na_shl 1 (by omega)] at e
        rw [nI_add]
        refine ih (p + 1) N (by omega) (by rw [e]; exact hF.trans (Fr.sI rfl)) (fun i hi => ?_)
        rw [e, mI_sI]
        by_cases hq : i = p
        · rw [if_pos ⟨rfl, hq⟩, hq]
        · rw [if_neg (fun z => hq z.2)]; exact hD i (by omega)
  exact key 9 0 C (by omega) Fr.refl (fun i hi => by omega)
theorem upv_at {f : Nat → Nat → Nat} {p k : Nat} {q : Nat × Nat × Nat} {x : Nat} : upv f p q x k = if x = p then (if k = 0 then q.1 else if k = 1 then q.2.1 else q.2.2) else f x k := rfl
theorem kp_votes {i p : Nat} {L : LandT} (hd : 3 ≤ d) (hS : LtS M 4) (hT : kT M z t) (hi : i ≤ z) (hp : p < 9) (hL : kL M L)
    (h1 : (tvT z t none i).2.1 = none → ∀ B, Fr lxS M B → kL B (L.1, L.2.1, L.2.2.1, L.2.2.2.1, upv (LdV L) p (tvT z t none i).1, LdB L, LdT L) → Q (some (vI (nI 1))) (kst B none (tvT z t none i).2.2))
    (h2 : ∀ f, (tvT z t none i).2.1 = some f → ∀ B j, Fr lxS M B → Q (some (vI (nI 0))) (kst B (some f) j)) : Cl X d 0 0 m_X4_readVotes [vR 4, vR 2, vI (nI (3 * p))] (kst M none i) Q := by
  have hz := hT.2.2.1
  unfold tvT at h1 h2
  dsimp only at h1 h2
  refine e_X4_readVotes (b_X4_readVotes_0 (M := kst M none i) hS (by omega) ⟨hT.1, ?_⟩)
  refine kp_number (but := none) (by omega) hT hi (by decide) (by decide) (fun b hb => (by cases hb)) (fun f hf j => ⟨_, rfl, ExtK, fun _ => ?_, fun q => absurd rfl q⟩) (fun a e hf => ⟨_, rfl, ExtK, fun q => absurd q (na_m1 (by have := (num_ok hf).2.1; omega)), fun _ => ?_⟩)
  · have r1 := numT_l hf
    refine h2 f ?_ M j Fr.refl
    rw [r1]; rfl
  rw [numT_r hf] at h1 h2
  obtain ⟨a1, a2, a3, a4, a5⟩ := num_ok hf
  dsimp only at h1 h2
  refine kp_take (by omega) hT a5 (by decide) (fun hc => ⟨_, rfl, ExtK, fun _ => ?_, fun q => absurd q (by decide)⟩) (fun hc => ⟨_, rfl, ExtK, fun q => absurd rfl q, fun _ => ?_⟩)
  rotate_left
  · have hs : ¬ (skp z t e < z ∧ t (skp z t e) = 44) := fun q => hc (by unfold chr; rw [if_pos q.1]; exact q.2)
    have es : signT z t 44 none e = (some (skp z t e), skp z t e + 1) := by unfold signT; dsimp only; rw [if_neg hs]
    rw [es] at h2
    refine h2 (skp z t e) ?_ M _ Fr.refl
    rfl
  have hs : skp z t e < z ∧ t (skp z t e) = 44 := by
    unfold chr at hc
    split at hc
    · exact ⟨by assumption, hc⟩
    · cases hc
  have es : signT z t 44 none e = (none, skp z t e + 1) := by unfold signT; dsimp only; rw [if_pos hs]
  rw [es] at h1 h2
  dsimp only at h1 h2
  refine kp_number (but := none) (by omega) hT (by omega) (by decide) (by decide) (fun b hb => (by cases hb)) (fun f hf2 j => ⟨_, rfl, ExtK, fun q => absurd rfl q, fun _ => ?_⟩) (fun b e2 hf2 => ⟨_, rfl, ExtK, fun _ => ?_, fun q => absurd q (na_m1 (by have := (num_ok hf2).2.1; omega))⟩)
  · have r1 := numT_l hf2
    rw [r1] at h2
    exact h2 f rfl M j Fr.refl
  rw [numT_r hf2] at h1 h2
  obtain ⟨b1, b2, b3, b4, b5⟩ := num_ok hf2
  dsimp only at h1 h2
  rw [if_pos rfl] at h1 h2
  -- the end
  have fin : ∀ (w : Option Nat) (j : Nat) (x : Int32), (x = (-1) → ∀ B, Fr lxS M B → Q (some (vI (nI 0))) (kst B w j)) → (∀ c, x = nI c → c ≤ 99 → ∀ B, Fr lxS M B → kL B (L.1, L.2.1, L.2.2.1, L.2.2.2.1, upv (LdV L) p (a, b, c), LdB L, LdT L) → Q (some (vI (nI 1))) (kst B w j)) → (x = (-1) ∨ ∃ c, x = nI c ∧ c ≤ 99) →
      WA X d 0 0 m_X4_readVotes 69 [some (vR 4), none, some (vI (nI (3 * p))), some (vI (nI a)), some (vI (nI b)), some (vI x)] [] (kst M w j) Q := fun w j x g1 g2 hx => by
    refine b_X4_readVotes_69 (M := kst M w j) hS ⟨na_in (by omega) (by omega), fun M1 e1 => ⟨by rw [nI_add]; exact na_in (by omega) (by omega), fun M2 e2 => ⟨by rw [nI_add]; exact na_in (by omega) (by omega), fun M3 e3 => ?_⟩⟩⟩
    rw [na_ix (by omega), show (4 : Nat) + 1 = 5 from rfl, kst_sI (by decide)] at e1
    rw [nI_add, na_ix (by omega), show (4 : Nat) + 1 = 5 from rfl, e1, kst_sI (by decide)] at e2
    rw [nI_add, na_ix (by omega), show (4 : Nat) + 1 = 5 from rfl, e2, kst_sI (by decide)] at e3
    have hF : Fr lxS M (sI (sI (sI M 5 (3 * p) (nI a)) 5 (3 * p + 1) (nI b)) 5 (3 * p + 2) x) := ((Fr.sI (Or.inr (Or.inl rfl))).trans (Fr.sI (Or.inr (Or.inl rfl)))).trans (Fr.sI (Or.inr (Or.inl rfl)))
    rw [e3]
    refine ⟨fun q => g1 q _ hF, fun q => ?_⟩
    rcases hx with hx | ⟨c, hx, hc99⟩
    · exact absurd hx q
    · refine g2 c hx hc99 _ hF ?_
      obtain ⟨k1, k2, k3, k4, k5⟩ := hL
      refine ⟨?_, ?_, ?_, ?_, fun p' hp' => ?_⟩
      · rw [mI_sI_a (by decide), mI_sI_a (by decide), mI_sI_a (by decide)]; exact k1
      · rw [mI_sI_a (by decide), mI_sI_a (by decide), mI_sI_a (by decide)]; exact k2
      · rw [mI_sI_a (by decide), mI_sI_a (by decide), mI_sI_a (by decide)]; exact k3
      · rw [mI_sI_a (by decide), mI_sI_a (by decide), mI_sI_a (by decide)]; exact k4
      obtain ⟨q1, q2, q3⟩ := k5 p' hp'
      refine ⟨fun k hk => ?_, ?_, ?_⟩
      · show _ = nI (upv (LdV L) p (a, b, c) p' k)
        rw [upv_at, mI_sI, mI_sI, mI_sI]
        by_cases hq : p' = p
        · subst hq
          rw [if_pos rfl]
          rcases (show k = 0 ∨ k = 1 ∨ k = 2 by omega) with rfl | rfl | rfl
          · rw [if_neg (by omega), if_neg (by omega), if_pos ⟨rfl, by omega⟩, if_pos rfl]
          · rw [if_neg (by omega), if_pos ⟨rfl, by omega⟩, if_neg (by decide), if_pos rfl]
          · rw [if_pos ⟨rfl, by omega⟩, if_neg (by decide), if_neg (by decide)]; exact hx
        · rw [if_neg (by omega), if_neg (by omega), if_neg (by omega), if_neg hq]; exact q1 k hk
      · rw [mI_sI_a (by decide), mI_sI_a (by decide), mI_sI_a (by decide)]; exact q2
      · rw [mI_sI_a (by decide), mI_sI_a (by decide), mI_sI_a (by decide)]; exact q3
  have hb := chr_lt (i := e2) hT
  refine kp_peek hT b5 ⟨_, rfl, ExtK, fun q => ?_, fun q => ?_⟩
  · rw [na_eq (by omega) (by decide)] at q
    have hs2 : ¬ (skp z t e2 < z ∧ t (skp z t e2) = 44) := fun q2 => q (by unfold chr; rw [if_pos q2.1]; exact q2.2)
    rw [if_neg hs2] at h1
    dsimp only at h1
    refine fin none (skp z t e2) (nI 0) (fun q2 => absurd q2 (na_m1 (by decide))) (fun c hc hc9 B hF hK => ?_) (Or.inr ⟨0, rfl, by decide⟩)
    rw [na_eq (by decide) (by omega)] at hc
    subst hc
    exact h1 rfl B hF hK
  · rw [na_eq (by omega) (by decide)] at q
    have hs2 : skp z t e2 < z ∧ t (skp z t e2) = 44 := by
      unfold chr at q
      split at q
      · exact ⟨by assumption, q⟩
      · cases q
    rw [if_pos hs2] at h1 h2
    dsimp only at h1 h2
    refine kp_pass hT.1 ⟨rfl, ExtK, ?_⟩
    refine kp_number (but := none) (by omega) hT (by omega) (by decide) (by decide) (fun b hb => (by cases hb)) (fun f hf3 j => ⟨_, rfl, ExtK, ?_⟩) (fun c e3 hf3 => ⟨_, rfl, ExtK, ?_⟩)
    · have r1 := numT_l hf3
      exact fin (some f) j (-1) (fun _ B hF => h2 f r1 B j hF) (fun c hc hc9 B hF hK => absurd hc.symm (na_m1 (by omega))) (Or.inl rfl)
    · rw [numT_r hf3] at h1
      have hc99 := (num_ok hf3).2.1
      refine fin none e3 (nI c) (fun q2 => absurd q2 (na_m1 (by omega))) (fun c' hc hc9 B hF hK => ?_) (Or.inr ⟨c, rfl, hc99⟩)
      rw [na_eq (by omega) (by omega)] at hc
      subst hc
      exact h1 rfl B hF hK
end LTXT
