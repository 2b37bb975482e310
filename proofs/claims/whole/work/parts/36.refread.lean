/-! a land's text -/
def sentsT (z : Nat) (t : Nat → Nat) : Nat → Option Nat → Nat → LandT → Option Nat × LandT
  | 0, w, _, L => (w, L)
  | _ + 1, some e, _, L => (some e, L)
  | f + 1, none, i, L => if chr z t i = 59 then sentsT z t f (sentT z t L (skp z t i + 1)).1 (sentT z t L (skp z t i + 1)).2.1 (sentT z t L (skp z t i + 1)).2.2 else if skp z t i < z then (some (skp z t i), L) else (none, L)
def L0 (n s : Nat) : LandT := (n, s, 0, 999, fun _ _ => 0, fun _ => 0, fun _ => 0)
/-- a land's text: its fault, or the land -/
def landT (z : Nat) (t : Nat → Nat) : Option Nat × LandT :=
  let r1 := numT z t 2 9 none none 0
  let r2 := signT z t 47 r1.2.1 r1.2.2
  let r3 := numT z t 1 (min 4 r1.1) none r2.1 r2.2
  sentsT z t 301 r3.2.1 r3.2.2 (L0 r1.1 r3.1)
theorem tvT_ok {z : Nat} {t : Nat → Nat} {i : Nat} (h : (tvT z t none i).2.1 = none) : i ≤ (tvT z t none i).2.2 ∧ (tvT z t none i).2.2 ≤ z ∧ (tvT z t none i).1.1 ≤ 99 ∧ (tvT z t none i).1.2.1 ≤ 99 ∧ (tvT z t none i).1.2.2 ≤ 99 := by
  have s0 := skp_ge z t i
  have ok1 := numT_ok (z := z) (t := t) (low := 0) (high := 99) (but := none) (i := i)
  unfold tvT at h ⊢
  dsimp only at h ⊢
  generalize hr1 : numT z t 0 99 none none i = r1 at ok1 h ⊢
  -- a fault stays a fault
  have hf1 : ∀ f, r1.2.1 = some f → False := by
    intro f hf
    rw [hf] at h
    simp only [signT, numT] at h
    cases h
  have hr1n : r1.2.1 = none := by cases q : r1.2.1 with | none => rfl | some f => exact (hf1 f q).elim
  obtain ⟨-, a2, -, a4, a5⟩ := ok1 hr1n
  rw [hr1n] at h ⊢
  by_cases hs : skp z t r1.2.2 < z ∧ t (skp z t r1.2.2) = 44
  · have es : signT z t 44 none r1.2.2 = (none, skp z t r1.2.2 + 1) := by unfold signT; dsimp only; rw [if_pos hs]
    rw [es] at h ⊢
    dsimp only at h ⊢
    have s1 := skp_ge z t r1.2.2
    have s2 := skp_ge z t (skp z t r1.2.2 + 1)
    have ok3 := numT_ok (z := z) (t := t) (low := 0) (high := 99) (but := none) (i := skp z t r1.2.2 + 1)
    generalize hr3 : numT z t 0 99 none none (skp z t r1.2.2 + 1) = r3 at ok3 h ⊢
    by_cases h3 : r3.2.1 = none
    · rw [if_pos h3] at h ⊢
      obtain ⟨-, c2, -, c4, c5⟩ := ok3 h3
      have s3 := skp_ge z t r3.2.2
      have s4 := skp_le z t r3.2.2
      by_cases h5 : skp z t r3.2.2 < z ∧ t (skp z t r3.2.2) = 44
      · rw [if_pos h5] at h ⊢
        have ok4 := numT_ok (z := z) (t := t) (low := 0) (high := 99) (but := none) (i := skp z t r3.2.2 + 1) h
        have s5 := skp_ge z t (skp z t r3.2.2 + 1)
        dsimp only
        refine ⟨by omega, ok4.2.2.2.2, a2, c2, ok4.2.1⟩
      · rw [if_neg h5] at h ⊢
        dsimp only
        refine ⟨by omega, by omega, a2, c2, by omega⟩
    · rw [if_neg h3] at h
      exact absurd h h3
  · have es : signT z t 44 none r1.2.2 = (some (skp z t r1.2.2), skp z t r1.2.2 + 1) := by unfold signT; dsimp only; rw [if_neg hs]
    rw [es] at h
    simp only [numT] at h
    cases h
/-- what holds of a land that was told -/
def LdOK (L : LandT) : Prop := (2 ≤ L.1 ∧ L.1 ≤ 9) ∧ (1 ≤ L.2.1 ∧ L.2.1 ≤ 4 ∧ L.2.1 ≤ L.1) ∧ L.2.2.1 ≤ 999 ∧ L.2.2.2.1 ≤ 999 ∧ (∀ p k, LdV L p k ≤ 99) ∧ (∀ p k, L.1 ≤ p → LdV L p k = 0) ∧
  (∀ p, LdB L p < 2 ^ L.1 ∧ LdT L p < 2 ^ L.1) ∧ (∀ p, L.1 ≤ p → LdB L p = 0 ∧ LdT L p = 0) ∧ (∀ p q, (LdB L p).testBit q = (LdB L q).testBit p ∧ (LdT L p).testBit q = (LdT L q).testBit p) ∧ (∀ p, (LdB L p).testBit p = false ∧ (LdT L p).testBit p = false)
theorem tb_sh (q x : Nat) : (1 <<< q).testBit x = decide (x = q) := by
  rw [Nat.one_shiftLeft, Nat.testBit_two_pow]
  exact decide_eq_decide.mpr ⟨fun h => h.symm, fun h => h.symm⟩
theorem pairUp_tb {f : Nat → Nat} {p q : Nat} (hne : q ≠ p) (x y : Nat) : (pairUp f p q x).testBit y = ((f x).testBit y || (decide (x = p) && decide (y = q)) || (decide (x = q) && decide (y = p))) := by
  unfold pairUp upm
  by_cases h1 : x = q
  · subst h1
    rw [if_pos rfl, if_neg hne, Nat.testBit_or, tb_sh]
    simp [hne]
  · by_cases h2 : x = p
    · subst h2
      rw [if_neg h1, if_pos rfl, Nat.testBit_or, tb_sh]
      simp [h1]
    · simp [h1, h2]
theorem pairUp_lt {f : Nat → Nat} {n p q : Nat} (hp : p < n) (hq : q < n) (hf : ∀ x, f x < 2 ^ n) (x : Nat) : pairUp f p q x < 2 ^ n := by
  have e : ∀ r, r < n → 1 <<< r < 2 ^ n := fun r hr => by rw [Nat.one_shiftLeft]; exact Nat.pow_lt_pow_right (by decide) hr
  unfold pairUp upm
  split
  · refine Nat.or_lt_two_pow ?_ (e p hp)
    split
    · exact Nat.or_lt_two_pow (hf _) (e q hq)
    · exact hf _
  · split
    · exact Nat.or_lt_two_pow (hf _) (e q hq)
    · exact hf _
theorem pairUp_0 {f : Nat → Nat} {n p q : Nat} (hp : p < n) (hq : q < n) {x : Nat} (hx : n ≤ x) (h0 : f x = 0) : pairUp f p q x = 0 := by
  unfold pairUp upm
  rw [if_neg (by omega), if_neg (by omega)]; exact h0
theorem sentT_ok {z : Nat} {t : Nat → Nat} {L : LandT} {i : Nat} (hL : LdOK L) (h : (sentT z t L i).1 = none) : i ≤ (sentT z t L i).2.1 ∧ (sentT z t L i).2.1 ≤ z ∧ LdOK (sentT z t L i).2.2 := by
  obtain ⟨l1, l2, l3, l4, l5, l6, l7, l8, l9, l10⟩ := hL
  have s0 := skp_ge z t i
  unfold sentT at h ⊢
  dsimp only at h ⊢
  by_cases c60 : chr z t i = 60
  · rw [if_pos c60] at h ⊢
    have ok := numT_ok h
    have s1 := skp_ge z t (skp z t i + 1)
    refine ⟨by dsimp only; omega, ok.2.2.2.2, ⟨l1, l2, l3, ok.2.1, l5, l6, l7, l8, l9, l10⟩⟩
  rw [if_neg c60] at h ⊢
  by_cases c62 : chr z t i = 62
  · rw [if_pos c62] at h ⊢
    have ok := numT_ok h
    have s1 := skp_ge z t (skp z t i + 1)
    refine ⟨by dsimp only; omega, ok.2.2.2.2, ⟨l1, l2, ok.2.1, l4, l5, l6, l7, l8, l9, l10⟩⟩
  rw [if_neg c62] at h ⊢
  have ok1 := numT_ok (z := z) (t := t) (low := 0) (high := L.1 - 1) (but := none) (i := skp z t i)
  generalize numT z t 0 (L.1 - 1) none none (skp z t i) = r1 at ok1 h ⊢
  by_cases h1 : r1.2.1 = none
  · rw [if_pos h1] at h ⊢
    obtain ⟨-, a2, -, a4, a5⟩ := ok1 h1
    have s1 := skp_ge z t (skp z t i)
    have s2 := skp_ge z t r1.2.2
    by_cases c58 : chr z t r1.2.2 = 58
    · rw [if_pos c58] at h ⊢
      have tv := tvT_ok h
      refine ⟨by dsimp only; omega, tv.2.1, ⟨l1, l2, l3, l4, fun p k => ?_, fun p k hp => ?_, l7, l8, l9, l10⟩⟩
      · show upv (LdV L) r1.1 (tvT z t none (skp z t r1.2.2 + 1)).1 p k ≤ 99
        unfold upv
        split
        · split
          · exact tv.2.2.1
          · split
            · exact tv.2.2.2.1
            · exact tv.2.2.2.2
        · exact l5 p k
      · show upv (LdV L) r1.1 _ p k = 0
        unfold upv
        rw [if_neg (by dsimp only at hp; omega)]
        exact l6 p k hp
    rw [if_neg c58] at h ⊢
    by_cases c45 : chr z t r1.2.2 = 45
    · rw [if_pos c45] at h ⊢
      have ok3 := numT_ok h
      have s3 := skp_ge z t (skp z t r1.2.2 + 1)
      have hne : (numT z t 0 (L.1 - 1) (some r1.1) none (skp z t r1.2.2 + 1)).1 ≠ r1.1 := fun q => ok3.2.2.1 (by rw [q])
      refine ⟨by dsimp only; omega, ok3.2.2.2.2, ⟨l1, l2, l3, l4, l5, l6, fun p => ⟨pairUp_lt (by omega) (by omega) (fun x => (l7 x).1) p, (l7 p).2⟩, fun p hp => ⟨pairUp_0 (n := L.1) (by omega) (by omega) hp (l8 p hp).1, (l8 p hp).2⟩, fun p q => ⟨?_, (l9 p q).2⟩, fun p => ⟨?_, (l10 p).2⟩⟩⟩
      · show (pairUp (LdB L) _ _ p).testBit q = (pairUp (LdB L) _ _ q).testBit p
        rw [pairUp_tb hne, pairUp_tb hne, (l9 p q).1]
        rw [Bool.or_assoc, Bool.or_assoc]
        congr 1
        rw [Bool.or_comm]
        congr 1 <;> rw [Bool.and_comm]
      · show (pairUp (LdB L) _ _ p).testBit p = false
        rw [pairUp_tb hne, (l10 p).1]
        simp only [Bool.false_or, Bool.or_eq_false_iff, Bool.and_eq_false_iff, decide_eq_false_iff_not]
        omega
    rw [if_neg c45] at h ⊢
    by_cases c61 : chr z t r1.2.2 = 61
    · rw [if_pos c61] at h ⊢
      have ok3 := numT_ok h
      have s3 := skp_ge z t (skp z t r1.2.2 + 1)
      have hne : (numT z t 0 (L.1 - 1) (some r1.1) none (skp z t r1.2.2 + 1)).1 ≠ r1.1 := fun q => ok3.2.2.1 (by rw [q])
      refine ⟨by dsimp only; omega, ok3.2.2.2.2, ⟨l1, l2, l3, l4, l5, l6, fun p => ⟨(l7 p).1, pairUp_lt (by omega) (by omega) (fun x => (l7 x).2) p⟩, fun p hp => ⟨(l8 p hp).1, pairUp_0 (n := L.1) (by omega) (by omega) hp (l8 p hp).2⟩, fun p q => ⟨(l9 p q).1, ?_⟩, fun p => ⟨(l10 p).1, ?_⟩⟩⟩
      · show (pairUp (LdT L) _ _ p).testBit q = (pairUp (LdT L) _ _ q).testBit p
        rw [pairUp_tb hne, pairUp_tb hne, (l9 p q).2]
        rw [Bool.or_assoc, Bool.or_assoc]
        congr 1
        rw [Bool.or_comm]
        congr 1 <;> rw [Bool.and_comm]
      · show (pairUp (LdT L) _ _ p).testBit p = false
        rw [pairUp_tb hne, (l10 p).2]
        simp only [Bool.false_or, Bool.or_eq_false_iff, Bool.and_eq_false_iff, decide_eq_false_iff_not]
        omega
    rw [if_neg c61] at h
    cases h
  · rw [if_neg h1] at h
    exact absurd h h1
theorem tvT_w {z : Nat} {t : Nat → Nat} {w : Option Nat} {i : Nat} (hz : z ≤ 300) (hi : i < 2 ^ 18) (hw : wOk w) : wOk (tvT z t w i).2.1 := by
  have b1 := numT_le z t 0 99 none w i
  have w1 := numT_w (low := 0) (high := 99) (but := none) (t := t) hz (show i < 2 ^ 19 by omega) hw
  unfold tvT
  dsimp only
  generalize numT z t 0 99 none w i = r1 at b1 w1 ⊢
  have b2 := signT_le z t 44 r1.2.1 r1.2.2
  have w2 := signT_w (c := 44) (t := t) hz (show r1.2.2 < 2 ^ 19 by omega) w1
  generalize signT z t 44 r1.2.1 r1.2.2 = r2 at b2 w2 ⊢
  have b3 := numT_le z t 0 99 none r2.1 r2.2
  have w3 := numT_w (low := 0) (high := 99) (but := none) (t := t) hz (show r2.2 < 2 ^ 19 by omega) w2
  generalize numT z t 0 99 none r2.1 r2.2 = r3 at b3 w3 ⊢
  have b4 := skp_le z t r3.2.2
  split
  · split
    · exact numT_w hz (by omega) (fun _ q => by cases q)
    · exact fun _ q => by cases q
  · exact w3
theorem sentT_w {z : Nat} {t : Nat → Nat} {L : LandT} {i : Nat} (hz : z ≤ 300) (hi : i < 2 ^ 17) : wOk (sentT z t L i).1 := by
  have b0 := skp_le z t i
  have wn : wOk none := fun _ q => by cases q
  unfold sentT
  dsimp only
  split
  · exact numT_w hz (by omega) wn
  · split
    · exact numT_w hz (by omega) wn
    · have b1 := numT_le z t 0 (L.1 - 1) none none (skp z t i)
      have w1 := numT_w (low := 0) (high := L.1 - 1) (but := none) (t := t) hz (show skp z t i < 2 ^ 19 by omega) wn
      generalize numT z t 0 (L.1 - 1) none none (skp z t i) = r1 at b1 w1 ⊢
      have b2 := skp_le z t r1.2.2
      split
      · split
        · exact tvT_w hz (by omega) wn
        · split
          · exact numT_w hz (by omega) wn
          · split
            · exact numT_w hz (by omega) wn
            · intro f hf; cases hf; omega
      · exact w1
theorem L0_ok {n s : Nat} (h1 : 2 ≤ n ∧ n ≤ 9) (h2 : 1 ≤ s ∧ s ≤ 4 ∧ s ≤ n) : LdOK (L0 n s) := by
  refine ⟨h1, h2, Nat.zero_le _, Nat.le_refl 999, fun _ _ => Nat.zero_le _, fun _ _ _ => rfl, fun _ => ⟨Nat.two_pow_pos _, Nat.two_pow_pos _⟩, fun _ _ => ⟨rfl, rfl⟩, fun _ _ => ⟨?_, ?_⟩, fun _ => ⟨?_, ?_⟩⟩ <;> simp [LdB, LdT, L0]
/-! readLand -/
def zeroTo (M : Mem) (l p : Nat) : Prop := ∀ p', p' < p → (∀ k, k < 3 → mI M 81 (3 * (9 * l + p') + k) = nI 0) ∧ mI M 82 (9 * l + p') = nI 0 ∧ mI M 83 (9 * l + p') = nI 0
theorem wa_rl20 {X : Cx} {d kc ns : Nat} {Q : Option AV → Mem → Prop} {l p : Nat} {M : Mem} (hd : 2 ≤ d) (hS : RfS M) (hl : l < 7) (hp : p < 9)
    (h : WA X d kc ns m_X11_readLand 12 [some (vR 75), some (vI (nI l)), some (vI (nI (p + 1))), none] [] (sI (sI (sI (sI (sI M 81 (3 * (9 * l + p)) (nI 0)) 81 (3 * (9 * l + p) + 1) (nI 0)) 81 (3 * (9 * l + p) + 2) (nI 0)) 82 (9 * l + p) (nI 0)) 83 (9 * l + p) (nI 0)) Q) :
    WA X d kc ns m_X11_readLand 20 [some (vR 75), some (vI (nI l)), some (vI (nI p)), some (vI (nI 0))] [] M Q := by
  have step : ∀ (k : Nat) (B : Mem), k < 3 → RfS B → WA X d kc ns m_X11_readLand 20 [some (vR 75), some (vI (nI l)), some (vI (nI p)), some (vI (nI (k + 1)))] [] (sI B 81 (3 * (9 * l + p) + k) (nI 0)) Q → WA X d kc ns m_X11_readLand 20 [some (vR 75), some (vI (nI l)), some (vI (nI p)), some (vI (nI k))] [] B Q := by
    intro k B hk hB hn
    refine b_X11_readLand_20 hB (by omega) ⟨fun q => ?_, fun _ => sp_voteAt ⟨_, rfl, Ext.refl _, na_in (by omega) (by omega), fun M4 e4 => ?_⟩⟩
    · rw [na_le (by omega) (by omega)] at q; omega
    · rw [sI_ix (by omega)] at e4
      subst e4
      rw [nI_add]
      exact hn
  refine step 0 M (by omega) hS (step 1 _ (by omega) hS (step 2 _ (by omega) hS ?_))
  rw [Nat.add_zero]
  refine b_X11_readLand_20 (M := sI (sI (sI M 81 (3 * (9 * l + p)) (nI 0)) 81 (3 * (9 * l + p) + 1) (nI 0)) 81 (3 * (9 * l + p) + 2) (nI 0)) hS (by omega) ⟨fun _ => ?_, fun q => absurd ((na_le (by omega) (by omega)).mpr (by omega)) q⟩
  have ei : nI 9 * nI l + nI p = nI (9 * l + p) := by rw [pk_mul, nI_add]
  rw [ei]
  refine ⟨na_in (by omega) (by omega), fun M1 e1 => ⟨na_in (by omega) (by omega), fun M2 e2 => ?_⟩⟩
  rw [sI_ix (by omega)] at e1 e2
  subst e1
  subst e2
  rw [nI_add]
  exact h
theorem zeroTo_s {M : Mem} {l p : Nat} (hz : zeroTo M l p) : zeroTo (sI (sI (sI (sI (sI M 81 (3 * (9 * l + p)) (nI 0)) 81 (3 * (9 * l + p) + 1) (nI 0)) 81 (3 * (9 * l + p) + 2) (nI 0)) 82 (9 * l + p) (nI 0)) 83 (9 * l + p) (nI 0)) l (p + 1) := by
  intro p' hp'
  refine ⟨fun k hk => ?_, ?_, ?_⟩
  · rw [mI_sI_a (by decide), mI_sI_a (by decide), mI_sI, mI_sI, mI_sI]
    by_cases hpp : p' = p
    · subst hpp
      rcases (show k = 0 ∨ k = 1 ∨ k = 2 by omega) with rfl | rfl | rfl <;> simp
    · rw [if_neg (by omega), if_neg (by omega), if_neg (by omega)]
      exact (hz p' (by omega)).1 k hk
  · rw [mI_sI_a (by decide), mI_sI]
    by_cases hpp : p' = p
    · subst hpp; simp
    · rw [if_neg (by omega), mI_sI_a (by decide), mI_sI_a (by decide), mI_sI_a (by decide)]
      exact (hz p' (by omega)).2.1
  · rw [mI_sI]
    by_cases hpp : p' = p
    · subst hpp; simp
    · rw [if_neg (by omega), mI_sI_a (by decide), mI_sI_a (by decide), mI_sI_a (by decide), mI_sI_a (by decide)]
      exact (hz p' (by omega)).2.2
theorem wa_rl12 {X : Cx} {d kc ns : Nat} {Q : Option AV → Mem → Prop} {l : Nat} (hd : 2 ≤ d) (hl : l < 7) {M0 : Mem} (hS0 : RfS M0)
    (h : ∀ M : Mem, Fr (ldS l) M0 M → zeroTo M l 9 → WA X d kc ns m_X11_readLand 12 [some (vR 75), some (vI (nI l)), some (vI (nI 9)), none] [] M Q) :
    ∀ (n p : Nat) (M : Mem), p ≤ 9 → 9 - p = n → Fr (ldS l) M0 M → zeroTo M l p → WA X d kc ns m_X11_readLand 12 [some (vR 75), some (vI (nI l)), some (vI (nI p)), none] [] M Q := by
  intro n
  induction n with
  | zero =>
    intro p M hp hn hF hz
    obtain rfl : p = 9 := by omega
    exact h M hF hz
  | succ n ih =>
    intro p M hp hn hF hz
    have hS : RfS M := hS0.fr hF
    refine b_X11_readLand_12 hS (by omega) ⟨fun q => ?_, fun _ => wa_rl20 hd hS hl (by omega) ?_⟩
    · rw [na_le (by omega) (by omega)] at q; omega
    · refine ih (p + 1) _ (by omega) (by omega) ?_ (zeroTo_s hz)
      have f66 : ∀ j, 3 * (9 * l + p) ≤ j → j ≤ 3 * (9 * l + p) + 2 → ldS l 81 j := fun j h1 h2 => Or.inr (Or.inl ⟨rfl, by omega, by omega⟩)
      exact (((((hF.trans (Fr.sI (f66 _ (by omega) (by omega)))).trans (Fr.sI (f66 _ (by omega) (by omega)))).trans (Fr.sI (f66 _ (by omega) (by omega)))).trans (Fr.sI (Or.inr (Or.inr ⟨Or.inl rfl, by omega, by omega⟩)))).trans (Fr.sI (Or.inr (Or.inr ⟨Or.inr rfl, by omega, by omega⟩))))
/-- the sentences, one by one -/
theorem wa_rl131 {X : Cx} {d kc ns : Nat} {Q : Option AV → Mem → Prop} {z l : Nat} {t : Nat → Nat} (hd : 6 ≤ d) (hl : l < 7) {M0 : Mem} (hS0 : RfS M0) (hT0 : rT M0 z t) :
    ∀ (f : Nat) (w : Option Nat) (i : Nat) (L : LandT) (B : Mem), Fr (ldS l) M0 B → wOk w → (w = none → i ≤ z ∧ z < i + f ∧ LdOK L ∧ rLd B l L) →
    (∀ (B' : Mem) (j : Nat), Fr (ldS l) M0 B' → ((sentsT z t f w i L).1 = none → LdOK (sentsT z t f w i L).2 ∧ rLd B' l (sentsT z t f w i L).2) → Q (some (vI (oI (sentsT z t f w i L).1))) (pst B' (sentsT z t f w i L).1 j)) →
    0 < f → WA X d kc ns m_X11_readLand 131 [some (vR 75), some (vI (nI l)), none, none] [] (pst B w i) Q := by
  intro f
  induction f with
  | zero => intro w i L B _ _ _ _ h0; omega
  | succ f ih =>
    intro w i L B hF hw hok h _
    have hS : RfS B := hS0.fr hF
    have hT : rT B z t := hT0.fr hF ldS_T.1 ldS_T.2
    have hz := hT.2.1
    cases w with
    | some e =>
      have hne : ¬ mI (pst B (some e) i) 75 4 = (-1) := by rw [pst_4]; exact na_m1 (by have := hw e rfl; omega)
      refine b_X11_readLand_131 (M := pst B (some e) i) hS (by omega) ⟨fun _ => b_X11_readLand_166 (M := pst B (some e) i) hS (by omega) ⟨fun _ => ?_, fun q => absurd q hne⟩, fun q => absurd q hne⟩
      rw [pst_4]
      exact h B i hF (fun q => by cases q)
    | none =>
      obtain ⟨hi1, hi2, hLo, hLd⟩ := hok rfl
      have he : mI (pst B none i) 75 4 = (-1) := pst_4
      have s1 := skp_ge z t i
      have s2 := skp_le z t i
      refine b_X11_readLand_131 (M := pst B none i) hS (by omega) ⟨fun q => absurd he q, fun _ => sp_lookP hS hT (by omega) ⟨_, rfl, ExtP, ⟨fun hq => ?_, fun hq M2 e2 => ?_⟩⟩⟩
      · have hc : ¬ chr z t i = 59 := fun q => hq ((lkV_eq hT (by omega)).mpr q)
        have he2 : mI (pst B none (skp z t i)) 75 4 = (-1) := pst_4
        refine b_X11_readLand_166 (M := pst B none (skp z t i)) hS (by omega) ⟨fun q => absurd he2 q, fun _ => sp_lookP hS hT (by omega) ⟨_, rfl, ExtP, ⟨fun hq2 => ?_, fun hq2 => ?_⟩⟩⟩
        · rw [skp_skp] at hq2 ⊢
          have hzz : ¬ skp z t i < z := by
            intro q
            unfold lkV at hq2
            rw [if_pos q] at hq2
            exact na_m1 (by have := (hT.2.2 _ q).2.2; omega) hq2
          rw [pst_4]
          have := h B (skp z t i) hF
          simp only [sentsT, if_neg hc, if_neg hzz] at this
          exact this (fun _ => ⟨hLo, hLd⟩)
        · rw [skp_skp] at hq2 ⊢
          have hzz : skp z t i < z := by
            rcases Nat.lt_or_ge (skp z t i) z with q | q
            · exact q
            · unfold lkV at hq2
              rw [if_neg (by omega)] at hq2
              exact absurd rfl hq2
          rw [pst_3]
          refine sp_badP hS hw ⟨rfl, ExtP, ?_⟩
          rw [pst_4]
          have := h B (skp z t i) hF
          simp only [sentsT, if_neg hc, if_pos hzz] at this
          exact this (fun q => by cases q)
      · have hc := (lkV_eq hT (by omega)).mp hq
        have hzz : skp z t i < z := by
          unfold chr at hc
          split at hc
          · assumption
          · cases hc
        rw [pst_3, nI_add, pst_sI3] at e2
        subst e2
        refine sp_sentence (by omega) hS hT (by omega) hl hLd hLo.1 (fun B1 hF1 hB1 => ⟨rfl, ExtPP hF1.ext, ?_⟩)
        have hsw : wOk (sentT z t L (skp z t i + 1)).1 := sentT_w hz (by omega)
        refine ih _ _ (sentT z t L (skp z t i + 1)).2.2 B1 (hF.trans hF1) hsw (fun hn => ?_) ?_ ?_
        · obtain ⟨q1, q2, q3⟩ := sentT_ok hLo hn
          exact ⟨q2, by omega, q3, hB1 hn⟩
        · intro B' j hF' hB'
          have := h B' j hF'
          simp only [sentsT, if_pos hc] at this
          exact this hB'
        · omega
theorem sp_readLand {X : Cx} {d : Nat} {Q : Option AV → Mem → Prop} {z l : Nat} {t : Nat → Nat} {M : Mem} (hd : 7 ≤ d) (hS : RfS M) (hT : rT M z t) (hl : l < 7)
    (h : ∀ (B : Mem) (j : Nat), Fr (ldS l) M B → ((landT z t).1 = none → LdOK (landT z t).2 ∧ rLd B l (landT z t).2) → Q (some (vI (oI (landT z t).1))) (pst B (landT z t).1 j)) :
    Cl X d 0 0 m_X11_readLand [vR 75, vI (nI l)] M Q := by
  have hz := hT.2.1
  have wn : wOk none := fun _ q => by cases q
  have hlx : ix (nI l) = l := na_ix (by omega)
  have hin : vp_in (nI l) 7 := na_in hl (by omega)
  refine e_X11_readLand (b_X11_readLand_0 hS (fun M1 e1 M2 e2 => ?_))
  subst e1
  have e2 : M2 = pst M none 0 := e2
  subst e2
  -- all over the memory without what is wrong and the place
  have key : ∀ M1 : Mem, Fr (ldS l) (pst M none 0) M1 → M1 = pst M1 none 0 := fun M1 hF => by
    refine (pst_of ?_ ?_).symm
    · rw [hF.at (by unfold ldS; omega), pst_3]
    · rw [hF.at (by unfold ldS; omega), pst_4]
  refine wa_rl12 (M0 := pst M none 0) (by omega) hl hS (fun M1 hF1 hz1 => ?_) 9 0 _ (by omega) rfl Fr.refl (fun _ q => by omega)
  have hS1 : RfS M1 := RfS.fr (M := pst M none 0) hS hF1
  have hT1 : rT M1 z t := hT.p.fr hF1 ldS_T.1 ldS_T.2
  refine b_X11_readLand_12 hS1 (by omega) ⟨fun _ => ⟨hin, fun M2 e2 => ⟨hin, fun M3 e3 => ?_⟩⟩, fun q => absurd ((na_le (by omega) (by omega)).mpr (by omega)) q⟩
  rw [hlx] at e2 e3
  rw [key M1 hF1, pst_sI (by decide)] at e2
  subst e2
  rw [pst_sI (by decide)] at e3
  subst e3
  have b1 := numT_le z t 2 9 none none 0
  have w1 := numT_w (low := 2) (high := 9) (but := none) (t := t) hz (show 0 < 2 ^ 19 by decide) wn
  have hTa : rT (sI (sI M1 79 l (nI 0)) 80 l (nI 999)) z t := (hT1.a (by decide) (by decide)).a (by decide) (by decide)
  refine sp_numT (but := none) (by omega) hS1 hTa (by omega) wn (by omega) (by omega) (fun _ q => by cases q) ⟨_, rfl, ExtP, hin, fun M4 e4 => ?_⟩
  have ok1 := numT_ok (z := z) (t := t) (low := 2) (high := 9) (but := none) (i := 0)
  have vb1 : 2 ≤ (numT z t 2 9 none none 0).1 ∧ (numT z t 2 9 none none 0).1 ≤ 9 := by
    cases q : (numT z t 2 9 none none 0).2.1 with
    | none => exact ⟨(ok1 q).1, (ok1 q).2.1⟩
    | some f =>
      unfold numT at q ⊢
      dsimp only at q ⊢
      revert q
      cases num z t 2 9 none 0 with
      | inl g => intro _; exact (show 2 ≤ 2 ∧ 2 ≤ 9 by decide)
      | inr g => obtain ⟨v, e⟩ := g; intro q; cases q
  unfold landT at h
  dsimp only at h
  generalize hr1 : numT z t 2 9 none none 0 = r1 at b1 w1 ok1 vb1 e4 h
  rw [hlx, pst_sI (by decide)] at e4
  subst e4
  have b2 := signT_le z t 47 r1.2.1 r1.2.2
  have w2 := signT_w (c := 47) (t := t) hz (show r1.2.2 < 2 ^ 19 by omega) w1
  have hTb : rT (sI (sI (sI M1 79 l (nI 0)) 80 l (nI 999)) 77 l (nI r1.1)) z t := hTa.a (by decide) (by decide)
  refine sp_signT (by omega) hS1 hTb (by omega) w1 (by omega) ⟨rfl, ExtP, hin, ?_⟩
  generalize hr2 : signT z t 47 r1.2.1 r1.2.2 = r2 at b2 w2 h
  have emin : minI (nI 4) (mI (pst (sI (sI (sI M1 79 l (nI 0)) 80 l (nI 999)) 77 l (nI r1.1)) r2.1 r2.2) 77 (ix (nI l))) = nI (min 4 r1.1) := by
    rw [pst_o (by omega), hlx, mI_sI_eq]
    unfold minI
    by_cases q : r1.1 < 4
    · rw [if_pos ((na_lt (by omega) (by omega)).mpr q), Nat.min_eq_right (by omega)]
    · rw [if_neg (fun z9 => q ((na_lt (by omega) (by omega)).mp z9)), Nat.min_eq_left (by omega)]
  rw [emin]
  have b3 := numT_le z t 1 (min 4 r1.1) none r2.1 r2.2
  have w3 := numT_w (low := 1) (high := min 4 r1.1) (but := none) (t := t) hz (show r2.2 < 2 ^ 19 by omega) w2
  refine sp_numT (but := none) (by omega) hS1 hTb (by omega) w2 (by omega) (by omega) (fun _ q => by cases q) ⟨_, rfl, ExtP, hin, fun M7 e7 => ?_⟩
  have hr2n : ∀ f, r2.1 = some f → (numT z t 1 (min 4 r1.1) none r2.1 r2.2).2.1 ≠ none := fun f hf q => by rw [hf] at q; unfold numT at q; cases q
  have ok3 : (numT z t 1 (min 4 r1.1) none r2.1 r2.2).2.1 = none → 1 ≤ (numT z t 1 (min 4 r1.1) none r2.1 r2.2).1 ∧ (numT z t 1 (min 4 r1.1) none r2.1 r2.2).1 ≤ min 4 r1.1 ∧ (numT z t 1 (min 4 r1.1) none r2.1 r2.2).2.2 ≤ z := by
    intro q
    have hn : r2.1 = none := by cases q9 : r2.1 with | none => rfl | some f => exact absurd q (hr2n f q9)
    rw [hn] at q ⊢
    have := numT_ok q
    exact ⟨this.1, this.2.1, this.2.2.2.2⟩
  generalize hr3 : numT z t 1 (min 4 r1.1) none r2.1 r2.2 = r3 at b3 w3 ok3 e7 h
  rw [hlx, pst_sI (by decide)] at e7
  subst e7
  have hF7 : Fr (ldS l) (pst M none 0) (sI (sI (sI (sI M1 79 l (nI 0)) 80 l (nI 999)) 77 l (nI r1.1)) 78 l (nI r3.1)) :=
    (((hF1.trans (Fr.sI (Or.inl ⟨by omega, rfl⟩))).trans (Fr.sI (Or.inl ⟨by omega, rfl⟩))).trans (Fr.sI (Or.inl ⟨by omega, rfl⟩))).trans (Fr.sI (Or.inl ⟨by omega, rfl⟩))
  refine wa_rl131 (M0 := pst M none 0) (z := z) (t := t) (by omega) hl hS hT.p 301 r3.2.1 r3.2.2 (L0 r1.1 r3.1) _ hF7 w3 (fun hn => ?_) (fun B' j hF' hB' => ?_) (by decide)
  · obtain ⟨q1, q2, q3⟩ := ok3 hn
    refine ⟨q3, by omega, L0_ok vb1 ⟨q1, by omega, by omega⟩, ?_⟩
    refine ⟨?_, ?_, ?_, ?_, fun p hp => ⟨fun k hk => ?_, ?_, ?_⟩⟩
    · rw [mI_sI_a (by decide), mI_sI_eq]; rfl
    · rw [mI_sI_eq]; rfl
    · rw [mI_sI_a (by decide), mI_sI_a (by decide), mI_sI_a (by decide), mI_sI_eq]; rfl
    · rw [mI_sI_a (by decide), mI_sI_a (by decide), mI_sI_eq]; rfl
    · rw [mI_sI_a (by decide), mI_sI_a (by decide), mI_sI_a (by decide), mI_sI_a (by decide)]; exact (hz1 p hp).1 k hk
    · rw [mI_sI_a (by decide), mI_sI_a (by decide), mI_sI_a (by decide), mI_sI_a (by decide)]; exact (hz1 p hp).2.1
    · rw [mI_sI_a (by decide), mI_sI_a (by decide), mI_sI_a (by decide), mI_sI_a (by decide)]; exact (hz1 p hp).2.2
  · -- the frame over M itself
    have hB : Fr (ldS l) M (sI (sI B' 75 3 (mI M 75 3)) 75 4 (mI M 75 4)) := by
      refine ⟨fun a k hn => ?_, hF'.2⟩
      rw [mI_sI]
      by_cases c4 : a = 75 ∧ k = 4
      · rw [if_pos c4, c4.1, c4.2]
      · rw [if_neg c4, mI_sI]
        by_cases c3 : a = 75 ∧ k = 3
        · rw [if_pos c3, c3.1, c3.2]
        · rw [if_neg c3, hF'.at hn, pst_o (by omega)]
    have hoff : ∀ a k, a ≠ 75 → mI (sI (sI B' 75 3 (mI M 75 3)) 75 4 (mI M 75 4)) a k = mI B' a k := fun a k ha => by rw [mI_sI_a ha, mI_sI_a ha]
    have := h _ j hB (fun hn => by
      obtain ⟨q1, g1, g2, g3, g4, g5⟩ := hB' hn
      refine ⟨q1, ?_, ?_, ?_, ?_, fun p hp => ⟨fun k hk => ?_, ?_, ?_⟩⟩
      · rw [hoff _ _ (by decide)]; exact g1
      · rw [hoff _ _ (by decide)]; exact g2
      · rw [hoff _ _ (by decide)]; exact g3
      · rw [hoff _ _ (by decide)]; exact g4
      · rw [hoff _ _ (by decide)]; exact (g5 p hp).1 k hk
      · rw [hoff _ _ (by decide)]; exact (g5 p hp).2.1
      · rw [hoff _ _ (by decide)]; exact (g5 p hp).2.2)
    have e9 : pst (sI (sI B' 75 3 (mI M 75 3)) 75 4 (mI M 75 4)) (sentsT z t 301 r3.2.1 r3.2.2 (L0 r1.1 r3.1)).1 j = pst B' (sentsT z t 301 r3.2.1 r3.2.2 (L0 r1.1 r3.1)).1 j := by
      unfold pst
      rw [sI_comm (a := 75) (i := 4) (b := 75) (j := 3) (by decide), sI_sI, sI_sI]
    rw [e9] at this
    exact this
