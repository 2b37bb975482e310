/-! THE ORDER OF CUTS; PAIRS OF HALVES -/
theorem enB_div {b n o m : Nat} (hm : m ≤ 2 ^ b) : ∀ r u c x, u ≤ m → x ∈ enB b n o m r u c → x / (2 ^ b) ^ r = c
  | 0, u, c, x, _, hx => by
    unfold enB at hx
    split at hx
    · simp at hx; rw [hx, Nat.pow_zero, Nat.div_one]
    · cases hx
  | r + 1, u, c, x, hu, hx => by
    have h2 := Nat.two_pow_pos b
    have step : ∀ e, e < 2 ^ b → x / (2 ^ b) ^ r = 2 ^ b * c + e → x / (2 ^ b) ^ (r + 1) = c := fun e he hq => by
      rw [Nat.pow_succ, ← Nat.div_div_eq_div_mul, hq, Nat.mul_add_div h2, Nat.div_eq_of_lt he, Nat.add_zero]
    unfold enB at hx
    split at hx
    · obtain ⟨k, h3, h4, h5⟩ := mem_flatR.mp hx
      exact step k (by omega) (enB_div hm r _ _ x (by omega) h5)
    · have := enB_div hm r u _ x hu hx
      exact step 0 h2 (by rw [this]; rfl)
theorem flatR_pw {f : Nat → List Nat} : ∀ j s, (∀ k, s ≤ k → k < s + j → (f k).Pairwise (· < ·)) → (∀ k k' x y, s ≤ k → k < k' → k' < s + j → x ∈ f k → y ∈ f k' → x < y) → (flatR f j s).Pairwise (· < ·)
  | 0, s, _, _ => List.Pairwise.nil
  | j + 1, s, h1, h2 => by
    rw [flatR, List.pairwise_append]
    refine ⟨h1 s (by omega) (by omega), flatR_pw j (s + 1) (fun k a c => h1 k (by omega) (by omega)) (fun k k' x y a c d => h2 k k' x y (by omega) c (by omega)), fun x hx y hy => ?_⟩
    obtain ⟨k, h3, h4, h5⟩ := mem_flatR.mp hy
    exact h2 s k x y (by omega) (by omega) (by omega) hx h5
theorem enB_pw {b n o m : Nat} (hm : m ≤ 2 ^ b) : ∀ r u c, u ≤ m → (enB b n o m r u c).Pairwise (· < ·)
  | 0, u, c, _ => by
    unfold enB
    split
    · exact List.pairwise_singleton _ _
    · exact List.Pairwise.nil
  | r + 1, u, c, hu => by
    unfold enB
    split
    · refine flatR_pw _ _ (fun k h1 h2 => enB_pw hm r _ _ (by omega)) (fun k k' x y h1 h2 h3 hx hy => ?_)
      have d1 := enB_div hm r _ _ x (by omega) hx
      have d2 := enB_div hm r _ _ y (by omega) hy
      rcases Nat.lt_or_ge x y with q | q
      · exact q
      · have := Nat.div_le_div_right (c := (2 ^ b) ^ r) q
        omega
    · exact enB_pw hm r u _ hu
theorem lsL_pw {L : LandT} {o m : Nat} (hm : m ≤ 4) : (lsL L o m).Pairwise (· < ·) := (enB_pw (b := 2) hm _ _ _ (by omega)).filter _
theorem pw_last {xs : List Nat} (h : xs.Pairwise (· < ·)) {x : Nat} (hx : x ∈ xs) : x ≤ xs.getD (xs.length - 1) 0 := by
  obtain ⟨i, hi, rfl⟩ := List.mem_iff_getElem.mp hx
  have hl : xs.getD (xs.length - 1) 0 = xs[xs.length - 1]'(by omega) := by
    simp only [List.getD]
    rw [List.getElem?_eq_getElem (by omega)]; rfl
  rw [hl]
  rcases Nat.lt_or_ge i (xs.length - 1) with q | q
  · exact Nat.le_of_lt (List.pairwise_iff_getElem.mp h i (xs.length - 1) hi (by omega) q)
  · have : i = xs.length - 1 := by omega
    subst this; exact Nat.le_refl _
/-- what nuF says -/
theorem nuF_iff {b n c o : Nat} : ∀ {p x : Nat}, nuF b n c o p = some x ↔ (∀ q, q < p → o.testBit q = true → dgB b n c q < x) ∧ (∀ s, s < x → ∃ q, q < p ∧ o.testBit q = true ∧ dgB b n c q = s) ∧ (∀ q, q < p → o.testBit q = true → ∀ s, s < dgB b n c q → ∃ q', q' < q ∧ o.testBit q' = true ∧ dgB b n c q' = s) ∧ (∀ q, q < p → o.testBit q = false → dgB b n c q = 0)
  | 0, x => by
    constructor
    · intro h; cases h
      exact ⟨fun q hq => by omega, fun s hs => by omega, fun q hq => by omega, fun q hq => by omega⟩
    · rintro ⟨-, h2, -, -⟩
      rcases Nat.eq_zero_or_pos x with h | h
      · rw [h]; rfl
      · obtain ⟨q, hq, -⟩ := h2 0 h; omega
  | p + 1, x => by
    constructor
    · intro h
      unfold nuF at h
      cases hc : nuF b n c o p with
      | none => rw [hc] at h; cases h
      | some y =>
        obtain ⟨a1, a2, a3, a4⟩ := nuF_iff.mp hc
        rw [hc] at h
        dsimp only at h
        split at h
        · rename_i ho
          split at h
          · cases h
          · rename_i hle
            cases h
            refine ⟨fun q hq hoq => ?_, fun s hs => ?_, fun q hq hoq s hs => ?_, fun q hq hoq => ?_⟩
            · rcases (show q < p ∨ q = p by omega) with z | z
              · have := a1 q z hoq; split <;> omega
              · subst z; split <;> omega
            · by_cases hsy : s < y
              · obtain ⟨q, q1, q2, q3⟩ := a2 s hsy; exact ⟨q, by omega, q2, q3⟩
              · refine ⟨p, by omega, ho, ?_⟩
                split at hs <;> omega
            · rcases (show q < p ∨ q = p by omega) with z | z
              · exact a3 q z hoq s hs
              · subst z; exact a2 s (by omega)
            · rcases (show q < p ∨ q = p by omega) with z | z
              · exact a4 q z hoq
              · subst z; rw [ho] at hoq; cases hoq
        · rename_i ho
          have ho : o.testBit p = false := by simpa using ho
          split at h
          · rename_i h0
            cases h
            refine ⟨fun q hq hoq => ?_, fun s hs => ?_, fun q hq hoq s hs => ?_, fun q hq hoq => ?_⟩
            · rcases (show q < p ∨ q = p by omega) with z | z
              · exact a1 q z hoq
              · subst z; rw [ho] at hoq; cases hoq
            · obtain ⟨q, q1, q2, q3⟩ := a2 s hs; exact ⟨q, by omega, q2, q3⟩
            · rcases (show q < p ∨ q = p by omega) with z | z
              · exact a3 q z hoq s hs
              · subst z; rw [ho] at hoq; cases hoq
            · rcases (show q < p ∨ q = p by omega) with z | z
              · exact a4 q z hoq
              · subst z; exact h0
          · cases h
    · rintro ⟨a1, a2, a3, a4⟩
      by_cases ho : o.testBit p = true
      · have hpx := a1 p (by omega) ho
        by_cases hlast : ∃ q, q < p ∧ o.testBit q = true ∧ dgB b n c q = dgB b n c p
        · have hp : nuF b n c o p = some x := nuF_iff.mpr ⟨fun q hq => a1 q (by omega), fun s hs => by
            obtain ⟨q, q1, q2, q3⟩ := a2 s hs
            rcases (show q < p ∨ q = p by omega) with z | z
            · exact ⟨q, z, q2, q3⟩
            · subst z
              obtain ⟨q', y1, y2, y3⟩ := hlast
              exact ⟨q', y1, y2, by omega⟩, fun q hq => a3 q (by omega), fun q hq => a4 q (by omega)⟩
          unfold nuF
          rw [hp]
          dsimp only
          rw [if_pos ho, if_neg (by omega), if_neg (by omega)]
        · have hxe : x = dgB b n c p + 1 := by
            rcases Nat.lt_or_ge (dgB b n c p + 1) x with z | z
            · obtain ⟨q, q1, q2, q3⟩ := a2 (dgB b n c p + 1) z
              rcases (show q < p ∨ q = p by omega) with w | w
              · obtain ⟨q', y1, y2, y3⟩ := a3 q (by omega) q2 (dgB b n c p) (by omega)
                exact absurd ⟨q', by omega, y2, y3⟩ hlast
              · subst w; omega
            · omega
          have hp : nuF b n c o p = some (dgB b n c p) := nuF_iff.mpr ⟨fun q hq hoq => by
              have := a1 q (by omega) hoq
              rcases (show dgB b n c q < dgB b n c p ∨ dgB b n c q = dgB b n c p by omega) with z | z
              · exact z
              · exact absurd ⟨q, hq, hoq, z⟩ hlast, fun s hs => a3 p (by omega) ho s hs, fun q hq => a3 q (by omega), fun q hq => a4 q (by omega)⟩
          unfold nuF
          rw [hp]
          dsimp only
          rw [if_pos ho, if_neg (by omega), if_pos rfl, hxe]
      · have ho : o.testBit p = false := by simpa using ho
        have a2' : ∀ s, s < x → ∃ q, q < p ∧ o.testBit q = true ∧ dgB b n c q = s := fun s hs => by
          obtain ⟨q, q1, q2, q3⟩ := a2 s hs
          rcases (show q < p ∨ q = p by omega) with z | z
          · exact ⟨q, z, q2, q3⟩
          · subst z; rw [ho] at q2; cases q2
        have hp : nuF b n c o p = some x := nuF_iff.mpr ⟨fun q hq => a1 q (by omega), a2', fun q hq => a3 q (by omega), fun q hq => a4 q (by omega)⟩
        unfold nuF
        rw [hp]
        dsimp only
        rw [if_neg (by rw [ho]; decide), if_pos (a4 p (by omega) ho)]
/-- the number with the digits D -/
def ofD (b : Nat) (D : Nat → Nat) : Nat → Nat
  | 0 => 0
  | p + 1 => 2 ^ b * ofD b D p + D p
theorem ofD_lt {b : Nat} {D : Nat → Nat} (hD : ∀ p, D p < 2 ^ b) : ∀ p, ofD b D p < (2 ^ b) ^ p
  | 0 => by simp [ofD]
  | p + 1 => by
    have := ofD_lt hD p
    have := hD p
    rw [ofD, Nat.pow_succ, Nat.mul_comm ((2 ^ b) ^ p)]
    have h3 : 2 ^ b * (ofD b D p + 1) ≤ 2 ^ b * (2 ^ b) ^ p := Nat.mul_le_mul_left _ (by omega)
    rw [Nat.mul_succ] at h3; omega
theorem dg_ofD {b : Nat} {D : Nat → Nat} (hD : ∀ p, D p < 2 ^ b) : ∀ n q, q < n → dgB b n (ofD b D n) q = D q
  | 0, q, h => by omega
  | n + 1, q, h => by
    rw [ofD]
    rcases (show q < n ∨ q = n by omega) with z | z
    · rw [dgB_init (hD n) z]; exact dg_ofD hD n q z
    · subst z; exact dgB_last (hD q)
theorem dg_ext {b n x y : Nat} (hx : x < (2 ^ b) ^ n) (hy : y < (2 ^ b) ^ n) (h : ∀ q, q < n → dgB b n x q = dgB b n y q) : x = y := by
  have key : ∀ n x, x < (2 ^ b) ^ n → ∀ D : Nat → Nat, (∀ q, q < n → dgB b n x q = D q) → x = ofD b D n := by
    intro n
    induction n with
    | zero => intro x hx D _; rw [Nat.pow_zero] at hx; show x = 0; omega
    | succ n ih =>
      intro x hx D hD
      have h2 := Nat.two_pow_pos b
      have e1 := hD n (by omega)
      have hl : x % 2 ^ b = D n := by
        rw [← e1]; unfold dgB
        rw [show n + 1 - 1 - n = 0 by omega, Nat.mul_zero, Nat.shiftRight_zero]
      have hq : x / 2 ^ b = ofD b D n := by
        refine ih _ ?_ D (fun q hq => ?_)
        · rw [Nat.pow_succ] at hx
          exact Nat.div_lt_of_lt_mul (by rw [Nat.mul_comm]; exact hx)
        · rw [← hD q (by omega)]
          have e2 := dgB_pre (b := b) (n := n + 1) (x := x) (p := n) (r := 1) (q := q) rfl hq
          rw [e2, Nat.pow_one]
      rw [ofD, ← hq, ← hl, Nat.div_add_mod]
  rw [key n x hx (dgB b n y) h]
  exact (key n y hy (dgB b n y) (fun _ _ => rfl)).symm
/-! pairs -/
theorem lo_below : ∀ u, u < 256 → ∀ h, h < loN u → u.testBit h = true := by decide +kernel
def PRp (L : LandT) (P : Nat → Nat) (m : Nat) : Nat → List (Nat × Nat) → Prop
  | u, [] => m ≤ loN u
  | u, q :: ps => loN u < m ∧ q.1 = loN u ∧ q.1 < q.2 ∧ q.2 < m ∧ u.testBit q.2 = false ∧ faL L (P q.1 ||| P q.2) = 0 ∧ PRp L P m ((u ||| 2 ^ q.1) ||| 2 ^ q.2) ps
theorem anyR_ex {f : Nat → Bool} : ∀ j s, anyR f j s = true ↔ ∃ k, s ≤ k ∧ k < s + j ∧ f k = true
  | 0, s => by simp [anyR]; intros; omega
  | j + 1, s => by
    rw [anyR, Bool.or_eq_true, anyR_ex j (s + 1)]
    constructor
    · rintro (h | ⟨k, h1, h2, h3⟩)
      · exact ⟨s, by omega, by omega, h⟩
      · exact ⟨k, by omega, by omega, h3⟩
    · rintro ⟨k, h1, h2, h3⟩
      rcases (show k = s ∨ s + 1 ≤ k by omega) with z | z
      · subst z; exact Or.inl h3
      · exact Or.inr ⟨k, z, by omega, h3⟩
theorem u_or {u i j : Nat} (hu : u < 256) (hi : i < 8) (hj : j < 8) : (u ||| 2 ^ i) ||| 2 ^ j < 256 := by
  have a1 : 2 ^ i < 2 ^ 8 := Nat.pow_lt_pow_right (by decide) hi
  have a2 : 2 ^ j < 2 ^ 8 := Nat.pow_lt_pow_right (by decide) hj
  exact Nat.or_lt_two_pow (Nat.or_lt_two_pow (n := 8) hu a1) a2
theorem tb_or2 {u i j h : Nat} : ((u ||| 2 ^ i) ||| 2 ^ j).testBit h = (u.testBit h || decide (h = i) || decide (h = j)) := by
  rw [Nat.testBit_or, Nat.testBit_or, Nat.testBit_two_pow, Nat.testBit_two_pow]
  congr 1
  · congr 1; exact decide_eq_decide.mpr eq_comm
  · exact decide_eq_decide.mpr eq_comm
theorem cpB_pr {L : LandT} {P : Nat → Nat} {m : Nat} (hm : m ≤ 8) : ∀ f u, u < 256 → zcN u + 1 ≤ 2 * f → (cpB L P m f u = true ↔ ∃ ps, PRp L P m u ps)
  | 0, u, hu, hz => by omega
  | f + 1, u, hu, hz => by
    unfold cpB
    split
    · rename_i h
      exact ⟨fun _ => ⟨[], h⟩, fun _ => rfl⟩
    · rename_i h
      rw [anyR_ex]
      constructor
      · rintro ⟨o, h1, h2, h3⟩
        simp only [Bool.and_eq_true, Bool.not_eq_true', decide_eq_true_eq] at h3
        obtain ⟨⟨h4, h5⟩, h6⟩ := h3
        have hz2 := zc_dec u hu o (by omega) (by omega) h4
        obtain ⟨ps, hps⟩ := (cpB_pr hm f _ (u_or hu (by omega) (by omega)) (by omega)).mp h6
        exact ⟨(loN u, o) :: ps, by omega, rfl, by dsimp only; omega, by dsimp only; omega, h4, h5, hps⟩
      · rintro ⟨ps, hps⟩
        cases ps with
        | nil => have : m ≤ loN u := hps; omega
        | cons q ps =>
          obtain ⟨q1, q2⟩ := q
          obtain ⟨h1, h2, h3, h4, h5, h6, h7⟩ := hps
          dsimp only at h2 h3 h4 h5 h6 h7
          subst h2
          have hz2 := zc_dec u hu q2 (by omega) (by omega) h5
          refine ⟨q2, by omega, by omega, ?_⟩
          simp only [Bool.and_eq_true, Bool.not_eq_true', decide_eq_true_eq]
          exact ⟨⟨h5, h6⟩, (cpB_pr hm f _ (u_or hu (by omega) (by omega)) (by omega)).mpr ⟨ps, h7⟩⟩
/-- the pair in which a half is -/
def pkF : List (Nat × Nat) → Nat → Nat
  | [], _ => 0
  | q :: ps, h => if h = q.1 ∨ h = q.2 then 0 else pkF ps h + 1
theorem pr_lt {L : LandT} {P : Nat → Nat} {m : Nat} (hm : m ≤ 8) : ∀ (ps : List (Nat × Nat)) (u h : Nat), u < 256 → PRp L P m u ps → h < m → u.testBit h = false → pkF ps h < ps.length
  | [], u, h, hu, hp, hh, ht => by
    have hp : m ≤ loN u := hp
    have := lo_below u hu h (by omega)
    rw [this] at ht; cases ht
  | q :: ps, u, h, hu, hp, hh, ht => by
    obtain ⟨h1, h2, h3, h4, h5, h6, h7⟩ := hp
    unfold pkF
    split
    · simp
    · rename_i hne
      have := pr_lt hm ps _ h (u_or hu (by omega) (by omega)) h7 hh (by rw [tb_or2, ht, decide_eq_false (fun z => hne (Or.inl z)), decide_eq_false (fun z => hne (Or.inr z))]; rfl)
      simp only [List.length_cons]; omega
theorem pr_at {L : LandT} {P : Nat → Nat} {m : Nat} (hm : m ≤ 8) : ∀ (ps : List (Nat × Nat)) (u k : Nat) (q : Nat × Nat), u < 256 → PRp L P m u ps → ps[k]? = some q → q.1 < q.2 ∧ q.2 < m ∧ u.testBit q.1 = false ∧ u.testBit q.2 = false ∧ faL L (P q.1 ||| P q.2) = 0 ∧ pkF ps q.1 = k ∧ pkF ps q.2 = k ∧ (∀ h, h < m → u.testBit h = false → pkF ps h = k → h = q.1 ∨ h = q.2) ∧ (∀ h, h < m → u.testBit h = false → k < pkF ps h → q.1 < h)
  | [], u, k, q, hu, hp, hk => by simp at hk
  | q0 :: ps, u, 0, q, hu, hp, hk => by
    obtain ⟨h1, h2, h3, h4, h5, h6, h7⟩ := hp
    simp at hk
    subst hk
    obtain ⟨lo1, lo2⟩ := lo_dec u hu
    refine ⟨h3, h4, by rw [h2]; exact lo2 (by omega), h5, h6, if_pos (Or.inl rfl), if_pos (Or.inr rfl), fun h hh ht hq => ?_, fun h hh ht hq => ?_⟩
    · unfold pkF at hq
      split at hq
      · assumption
      · omega
    · rcases (show h < q0.1 ∨ h = q0.1 ∨ q0.1 < h by omega) with z | z | z
      · have := lo_below u hu h (by omega)
        rw [this] at ht; cases ht
      · rw [z] at hq; unfold pkF at hq; rw [if_pos (Or.inl rfl)] at hq; omega
      · exact z
  | q0 :: ps, u, k + 1, q, hu, hp, hk => by
    obtain ⟨h1, h2, h3, h4, h5, h6, h7⟩ := hp
    simp at hk
    obtain ⟨a1, a2, a3, a4, a5, a6, a7, a8, a9⟩ := pr_at hm ps _ k q (u_or hu (by omega) (by omega)) h7 hk
    rw [tb_or2] at a3 a4
    simp only [Bool.or_eq_false_iff, decide_eq_false_iff_not] at a3 a4
    refine ⟨a1, a2, a3.1.1, a4.1.1, a5, ?_, ?_, fun h hh ht hq => ?_, fun h hh ht hq => ?_⟩
    · unfold pkF; rw [if_neg (by omega), a6]
    · unfold pkF; rw [if_neg (by omega), a7]
    · unfold pkF at hq
      split at hq
      · omega
      · rename_i hne
        exact a8 h hh (by rw [tb_or2, ht, decide_eq_false (fun z => hne (Or.inl z)), decide_eq_false (fun z => hne (Or.inr z))]; rfl) (by omega)
    · unfold pkF at hq
      split at hq
      · omega
      · rename_i hne
        exact a9 h hh (by rw [tb_or2, ht, decide_eq_false (fun z => hne (Or.inl z)), decide_eq_false (fun z => hne (Or.inr z))]; rfl) (by omega)
theorem zc_0 : ∀ u, u < 256 → ∀ m, m ≤ 8 → m ≤ loN u → pcN m u = m := by decide +kernel
theorem zc_2 : ∀ u, u < 256 → ∀ m, m ≤ 8 → ∀ j, j < m → loN u < j → u.testBit j = false → pcN m ((u ||| 2 ^ loN u) ||| 2 ^ j) = pcN m u + 2 := by decide +kernel
theorem pr_len {L : LandT} {P : Nat → Nat} {m : Nat} (hm : m ≤ 8) : ∀ (ps : List (Nat × Nat)) (u : Nat), u < 256 → PRp L P m u ps → 2 * ps.length + pcN m u = m
  | [], u, hu, hp => by
    have hp : m ≤ loN u := hp
    have := zc_0 u hu m hm hp
    simp only [List.length_nil]; omega
  | q :: ps, u, hu, hp => by
    obtain ⟨h1, h2, h3, h4, h5, h6, h7⟩ := hp
    have ih := pr_len hm ps _ (u_or hu (by omega) (by omega)) h7
    rw [h2] at ih
    have := zc_2 u hu m hm q.2 h4 (by omega) h5
    simp only [List.length_cons]; omega
/-- the cut that pairs of halves tell -/
def pcut (L : LandT) (dr o : Nat) (ps : List (Nat × Nat)) : Nat := ofD 2 (fun q => if o.testBit q then pkF ps (dgB 3 L.1 dr q) % 4 else 0) L.1
theorem smF_two {n i j : Nat} (hi : i < j) (hj : j < n) : smF n (fun h => if h = i ∨ h = j then 1 else 0) = 2 := by
  have one : ∀ n, i < n → n ≤ j → smF n (fun h => if h = i ∨ h = j then 1 else 0) = 1 := by
    intro n
    induction n with
    | zero => intro h; omega
    | succ n ih =>
      intro h1 h2
      simp only [smF]
      rcases (show i = n ∨ i < n by omega) with z | z
      · subst z
        have z0 : ∀ k, k ≤ i → smF k (fun h => if h = i ∨ h = j then 1 else 0) = 0 := by
          intro k
          induction k with
          | zero => intro _; rfl
          | succ k ik => intro hk; simp only [smF]; rw [ik (by omega), if_neg (by omega)]
        rw [z0 i (Nat.le_refl _), if_pos (Or.inl rfl)]
      · rw [ih z (by omega), if_neg (by omega)]
  have two : ∀ n, j < n → smF n (fun h => if h = i ∨ h = j then 1 else 0) = 2 := by
    intro n
    induction n with
    | zero => intro h; omega
    | succ n ih =>
      intro h1
      simp only [smF]
      rcases (show j = n ∨ j < n by omega) with z | z
      · subst z; rw [one j hi (Nat.le_refl _), if_pos (Or.inr rfl)]
      · rw [ih z, if_neg (by omega)]
  exact two n hj
theorem smF_congr {f g : Nat → Nat} : ∀ {n}, (∀ k, k < n → f k = g k) → smF n f = smF n g
  | 0, _ => rfl
  | n + 1, h => by simp only [smF]; rw [smF_congr (fun k hk => h k (by omega)), h n (by omega)]
theorem pcut_ok {L : LandT} {dr o m : Nat} {ps : List (Nat × Nat)} (hm : m ≤ 4) (hnu : nuF 3 L.1 dr o L.1 = some (2 * m)) (hp : PRp L (sOB 3 L.1 dr o) (2 * m) 0 ps) :
    ps.length = m ∧ pcut L dr o ps < 4 ^ L.1 ∧ nuF 2 L.1 (pcut L dr o ps) o L.1 = some m ∧ (∀ k q, ps[k]? = some q → sOB 2 L.1 (pcut L dr o ps) o k = sOB 3 L.1 dr o q.1 ||| sOB 3 L.1 dr o q.2) ∧ icN L (pcut L dr o ps) o m := by
  obtain ⟨n1, n2, n3, n4⟩ := nuF_iff.mp hnu
  have hlen : ps.length = m := by
    have h0 : pcN (2 * m) 0 = 0 := by
      unfold pcN
      have := smF_le (f := fun p => if (0 : Nat).testBit p then 1 else 0) (b := 0) (fun p => by simp) (2 * m)
      omega
    have := pr_len (by omega) ps 0 (by decide) hp
    omega
  have t0 : ∀ h : Nat, (0 : Nat).testBit h = false := fun h => Nat.zero_testBit h
  have hpk : ∀ q, q < L.1 → o.testBit q = true → pkF ps (dgB 3 L.1 dr q) < m := fun q hq ho => by
    have := pr_lt (by omega) ps 0 _ (by decide) hp (n1 q hq ho) (t0 _)
    omega
  have hD4 : ∀ q, (if o.testBit q then pkF ps (dgB 3 L.1 dr q) % 4 else 0) < 2 ^ 2 := fun q => by
    split
    · exact Nat.mod_lt _ (by decide)
    · decide
  have hdg : ∀ q, q < L.1 → dgB 2 L.1 (pcut L dr o ps) q = if o.testBit q then pkF ps (dgB 3 L.1 dr q) else 0 := fun q hq => by
    unfold pcut
    rw [dg_ofD hD4 L.1 q hq]
    split
    · rename_i ho
      exact Nat.mod_eq_of_lt (by have := hpk q hq ho; omega)
    · rfl
  have hlt : pcut L dr o ps < 4 ^ L.1 := ofD_lt hD4 L.1
  have hseat : ∀ k q, ps[k]? = some q → sOB 2 L.1 (pcut L dr o ps) o k = sOB 3 L.1 dr o q.1 ||| sOB 3 L.1 dr o q.2 := fun k q hk => by
    obtain ⟨a1, a2, a3, a4, a5, a6, a7, a8, a9⟩ := pr_at (by omega) ps 0 k q (by decide) hp hk
    apply Nat.eq_of_testBit_eq
    intro i
    rw [Nat.testBit_or, tb_sOB, tb_sOB, tb_sOB]
    by_cases hi : i < L.1
    · rw [decide_eq_true hi, Bool.true_and, Bool.true_and, Bool.true_and, hdg i hi]
      cases ho : o.testBit i with
      | false => simp
      | true =>
        simp only [Bool.true_and, if_true]
        by_cases h1 : pkF ps (dgB 3 L.1 dr i) = k
        · rw [decide_eq_true h1]
          rcases a8 _ (n1 i hi ho) (t0 _) h1 with z | z
          · rw [decide_eq_true z]; rfl
          · rw [decide_eq_true z]; simp
        · rw [decide_eq_false h1, decide_eq_false (fun z => h1 (by rw [z]; exact a6)), decide_eq_false (fun z => h1 (by rw [z]; exact a7))]; rfl
    · rw [decide_eq_false hi]; simp
  have hat : ∀ k, k < m → ∃ q, ps[k]? = some q := fun k hk => ⟨ps[k]'(by omega), List.getElem?_eq_getElem (by omega)⟩
  have hnum : nuF 2 L.1 (pcut L dr o ps) o L.1 = some m := nuF_iff.mpr ⟨fun q hq ho => by rw [hdg q hq, if_pos ho]; exact hpk q hq ho, fun k hk => by
      obtain ⟨q, hq⟩ := hat k hk
      obtain ⟨a1, a2, a3, a4, a5, a6, a7, a8, a9⟩ := pr_at (by omega) ps 0 k q (by decide) hp hq
      obtain ⟨i, i1, i2, i3⟩ := n2 q.1 (by omega)
      exact ⟨i, i1, i2, by rw [hdg i i1, if_pos i2, i3]; exact a6⟩, fun i hi ho k hk => by
      rw [hdg i hi, if_pos ho] at hk
      have hpi := hpk i hi ho
      obtain ⟨q, hq⟩ := hat k (by omega)
      obtain ⟨a1, a2, a3, a4, a5, a6, a7, a8, a9⟩ := pr_at (by omega) ps 0 k q (by decide) hp hq
      obtain ⟨i', i1, i2, i3⟩ := n3 i hi ho q.1 (a9 _ (n1 i hi ho) (t0 _) hk)
      exact ⟨i', i1, i2, by rw [hdg i' (by omega), if_pos i2, i3]; exact a6⟩, fun i hi ho => by rw [hdg i hi, if_neg (by rw [ho]; decide)]⟩
  refine ⟨hlen, hlt, hnum, hseat, hnum, fun k hk => ?_⟩
  obtain ⟨q, hq⟩ := hat k hk
  obtain ⟨a1, a2, a3, a4, a5, a6, a7, a8, a9⟩ := pr_at (by omega) ps 0 k q (by decide) hp hq
  rw [hseat k q hq]; exact a5
theorem half_and {L : LandT} {dr o h h' : Nat} (hne : h ≠ h') : sOB 3 L.1 dr o h &&& sOB 3 L.1 dr o h' = 0 := by
  apply Nat.eq_of_testBit_eq
  intro i
  rw [Nat.testBit_and, tb_sOB, tb_sOB, Nat.zero_testBit]
  by_cases h1 : dgB 3 L.1 dr i = h
  · rw [decide_eq_false (show ¬ dgB 3 L.1 dr i = h' by omega)]; simp
  · rw [decide_eq_false h1]; simp
theorem pcut_jo {L : LandT} {G : GamT} {ps : List (Nat × Nat)} (hm : gLe G ≤ 4) (hnu : nuF 3 L.1 (gDr G) (gOp G) L.1 = some (2 * gLe G)) (hp : PRp L (sOB 3 L.1 (gDr G) (gOp G)) (2 * gLe G) 0 ps) : joB L G (pcut L (gDr G) (gOp G) ps) = true := by
  obtain ⟨e1, e2, e3, e4, e5⟩ := pcut_ok hm hnu hp
  refine decide_eq_true (fun k hk => ?_)
  obtain ⟨q, hq⟩ : ∃ q, ps[k]? = some q := ⟨ps[k]'(by omega), List.getElem?_eq_getElem (by omega)⟩
  obtain ⟨a1, a2, a3, a4, a5, a6, a7, a8, a9⟩ := pr_at (by omega) ps 0 k q (by decide) hp hq
  rw [e4 k q hq]
  have hin : ∀ h, h = q.1 ∨ h = q.2 → dif (sOB 3 L.1 (gDr G) (gOp G) h) (sOB 3 L.1 (gDr G) (gOp G) q.1 ||| sOB 3 L.1 (gDr G) (gOp G) q.2) = 0 := fun h hh => by
    apply Nat.eq_of_testBit_eq
    intro i
    rw [tb_dif, Nat.testBit_or, Nat.zero_testBit]
    rcases hh with rfl | rfl
    · cases (sOB 3 L.1 (gDr G) (gOp G) q.1).testBit i <;> simp
    · cases (sOB 3 L.1 (gDr G) (gOp G) q.2).testBit i <;> simp
  have hout : ∀ h, ¬ (h = q.1 ∨ h = q.2) → sOB 3 L.1 (gDr G) (gOp G) h &&& (sOB 3 L.1 (gDr G) (gOp G) q.1 ||| sOB 3 L.1 (gDr G) (gOp G) q.2) = 0 := fun h hh => by
    rw [Nat.and_or_distrib_left, half_and (fun z => hh (Or.inl z)), half_and (fun z => hh (Or.inr z))]; rfl
  refine ⟨fun h hh => ?_, ?_⟩
  · by_cases hc : h = q.1 ∨ h = q.2
    · exact Or.inr (hin h hc)
    · exact Or.inl (hout h hc)
  · refine Eq.trans (smF_congr (fun h hh => ?_)) (smF_two a1 a2)
    by_cases hc : h = q.1 ∨ h = q.2
    · have hpos := nuF_pos hnu hh
      rw [if_pos hc, if_neg]
      intro z
      have : sOB 3 L.1 (gDr G) (gOp G) h = 0 := by
        apply Nat.eq_of_testBit_eq
        intro i
        have z1 := congrArg (·.testBit i) z
        have z2 := congrArg (·.testBit i) (hin h hc)
        simp only [Nat.testBit_and, tb_dif, Nat.zero_testBit] at z1 z2 ⊢
        cases hx : (sOB 3 L.1 (gDr G) (gOp G) h).testBit i with
        | false => rfl
        | true =>
          rw [hx] at z1 z2
          cases hy : (sOB 3 L.1 (gDr G) (gOp G) q.1 ||| sOB 3 L.1 (gDr G) (gOp G) q.2).testBit i with
          | false => rw [hy] at z2; exact z2
          | true => rw [hy] at z1; exact z1
      omega
    · rw [if_neg hc, if_pos (hout h hc)]
