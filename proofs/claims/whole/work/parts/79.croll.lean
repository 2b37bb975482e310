/-! THE CLASS: a roll of cuts, asked -/
/-- the roll at a lists ls, with what each wins -/
def roX (M : Mem) (a : Nat) (W : Nat → Nat → Nat) (ls : List Nat) : Prop := RoS M a ∧ ∃ K, K < 65536 ∧ isK M (mR M a 0) 14 K ∧ isK M (mR M a 1) 14 K ∧ ls.length ≤ K ∧ mI M a 2 = nI ls.length ∧ stL M (mR M a 0) 0 ls ∧ ∀ i x, ls[i]? = some x → mI M (mR M a 1) i = nI (W x 0 + 8 * W x 1 + 64 * W x 2)
def mxR (W : Nat → Nat) (m : Nat) (xs : List Nat) : Nat := xs.foldl (fun m c => max m (W c)) m
def mnR (W : Nat → Nat) (m : Nat) (xs : List Nat) : Nat := xs.foldl (fun m c => min m (W c)) m
theorem mxR_ge (W : Nat → Nat) : ∀ xs m, m ≤ mxR W m xs
  | [], _ => Nat.le_refl _
  | c :: xs, m => by
    have := mxR_ge W xs (max m (W c))
    have h : m ≤ max m (W c) := Nat.le_max_left _ _
    show m ≤ mxR W (max m (W c)) xs
    omega
theorem bsF_some (W : Nat → Nat) : ∀ xs b0, ∃ b, bsF W xs (some b0) = some b ∧ W b = mxR W (W b0) xs ∧ (W b0 = W b → b = b0) ∧ (W b0 ≠ W b → xs.find? (fun c => decide (W c = W b)) = some b)
  | [], b0 => ⟨b0, rfl, rfl, fun _ => rfl, fun h => absurd rfl h⟩
  | c :: xs, b0 => by
    obtain ⟨b, h1, h2, h3, h4⟩ := bsF_some W xs (if W b0 < W c then c else b0)
    have hm : W (if W b0 < W c then c else b0) = max (W b0) (W c) := by
      split
      · rw [Nat.max_eq_right (by omega)]
      · rw [Nat.max_eq_left (by omega)]
    rw [hm] at h2
    have hge := mxR_ge W xs (max (W b0) (W c))
    have hl : W b0 ≤ max (W b0) (W c) := Nat.le_max_left _ _
    have hr : W c ≤ max (W b0) (W c) := Nat.le_max_right _ _
    refine ⟨b, h1, h2, fun h => ?_, fun h => ?_⟩
    · by_cases hc : W b0 < W c
      · omega
      · rw [if_neg hc] at h3; exact h3 h
    · rw [List.find?_cons]
      by_cases hc : W b0 < W c
      · rw [if_pos hc] at h3 h4
        by_cases he : W c = W b
        · rw [decide_eq_true he, h3 he]
        · rw [decide_eq_false he]; exact h4 he
      · rw [if_neg hc] at h4
        rw [decide_eq_false (show ¬ W c = W b by omega)]
        exact h4 h
theorem bsF_none (W : Nat → Nat) {xs : List Nat} (h : xs ≠ []) : ∃ b, bsF W xs none = some b ∧ W b = mxR W 0 xs ∧ xs.find? (fun c => decide (W c = W b)) = some b := by
  cases xs with
  | nil => exact absurd rfl h
  | cons c xs =>
    obtain ⟨b, h1, h2, h3, h4⟩ := bsF_some W xs c
    refine ⟨b, h1, ?_, ?_⟩
    · rw [h2]
      show mxR W (W c) xs = mxR W (max 0 (W c)) xs
      rw [Nat.max_eq_right (Nat.zero_le _)]
    · rw [List.find?_cons]
      by_cases he : W c = W b
      · rw [decide_eq_true he, h3 he]
      · rw [decide_eq_false he]; exact h4 he
theorem fwF_some (W : Nat → Nat) : ∀ xs f, fwF W xs (some f) = some (mnR W f xs)
  | [], _ => rfl
  | c :: xs, f => fwF_some W xs (min f (W c))
theorem fwF_none (W : Nat → Nat) {xs : List Nat} (h : xs ≠ []) (hW : ∀ c, c ∈ xs → W c ≤ 4) : fwF W xs none = some (mnR W 4 xs) := by
  cases xs with
  | nil => exact absurd rfl h
  | cons c xs =>
    have := hW c (by simp)
    show fwF W xs (some (W c)) = some (mnR W (min 4 (W c)) xs)
    rw [fwF_some, Nat.min_eq_right this]
theorem maxI_n {a b : Nat} (ha : a < 2 ^ 31) (hb : b < 2 ^ 31) : maxI (nI a) (nI b) = nI (max a b) := by
  unfold maxI
  by_cases q : a < b
  · rw [if_pos ((na_lt ha hb).mpr q), Nat.max_eq_right (by omega)]
  · rw [if_neg (fun z => q ((na_lt ha hb).mp z)), Nat.max_eq_left (by omega)]
section ROLL
variable {X : Cx} {d a k : Nat} {W : Nat → Nat → Nat} {ls : List Nat} {M : Mem} {Q : Option AV → Mem → Prop}
theorem kp_winsOf {i x : Nat} (hR : roX M a W ls) (hW : ∀ x k, W x k ≤ 4) (hk : k < 3) (hx : ls[i]? = some x) (h : Q (some (vI (nI (W x k)))) M) : Cl X d 0 0 m_X8_winsOf [vR a, vI (nI i), vI (nI k)] M Q := by
  obtain ⟨hS, K, h1, h2, h3, h4, h5, h6, h7⟩ := hR
  have hi := (List.getElem?_eq_some_iff.mp hx).1
  have w0 := hW x 0
  have w1 := hW x 1
  have w2 := hW x 2
  refine e_X8_winsOf (b_X8_winsOf_0 hS ⟨K, h3, na_in (by omega) (by omega), ?_⟩)
  rw [na_ix (by omega), h7 i x hx, pk_mul, na_shr (by omega) (by omega), pk_andN (Nat.lt_of_le_of_lt (Nat.shiftRight_le _ _) (by omega)) 3 (by decide)]
  have e : ((W x 0 + 8 * W x 1 + 64 * W x 2) >>> (3 * k)) % 2 ^ 3 = W x k := by
    rw [Nat.shiftRight_eq_div_pow]
    rcases (show k = 0 ∨ k = 1 ∨ k = 2 by omega) with rfl | rfl | rfl
    · show (_ / 1) % 8 = _; omega
    · show (_ / 8) % 8 = _; omega
    · show (_ / 64) % 8 = _; omega
  rw [e]; exact h
theorem kp_most (hd : 1 ≤ d) (hR : roX M a W ls) (hW : ∀ x k, W x k ≤ 4) (hk : k < 3) (h : Q (some (vI (nI (mxR (fun c => W c k) 0 ls)))) M) : Cl X d 0 0 m_X8_most [vR a, vI (nI k)] M Q := by
  obtain ⟨hS, K, g1, g2, g3, g4, g5, g6, g7⟩ := id hR
  have key : ∀ (xs pre : List Nat) (m : Nat), ls = pre ++ xs → m ≤ 4 → Q (some (vI (nI (mxR (fun c => W c k) m xs)))) M → WA X d 0 0 m_X8_most 4 [some (vR a), some (vI (nI k)), some (vI (nI m)), some (vI (nI pre.length))] [] M Q := by
    intro xs
    induction xs with
    | nil =>
      intro pre m hls hm hq
      have hl : ls.length = pre.length := by rw [hls]; simp
      exact b_X8_most_4 hS hd ⟨fun _ => hq, fun q => absurd (by rw [g5, na_le (by omega) (by omega)]; omega) q⟩
    | cons y xs ih =>
      intro pre m hls hm hq
      have hy : ls[pre.length]? = some y := by rw [hls]; simp
      have hlt := (List.getElem?_eq_some_iff.mp hy).1
      have hw := hW y k
      refine b_X8_most_4 hS hd ⟨fun q => absurd (by rw [g5, na_le (by omega) (by omega)] at q; omega) (id : False → False), fun _ => kp_winsOf hR hW hk hy ⟨_, rfl, Ext.refl _, fun x2 e2 => ?_⟩⟩
      rw [maxI_n (by omega) (by omega)] at e2
      have hn := ih (pre ++ [y]) (max m (W y k)) (by rw [hls]; simp) (Nat.max_le.mpr ⟨hm, hw⟩) hq
      rw [show (pre ++ [y]).length = pre.length + 1 by simp] at hn
      rw [e2, nI_add]; exact hn
  exact e_X8_most (b_X8_most_0 hS (key ls [] 0 rfl (by decide) h))
theorem kp_fewest (hd : 1 ≤ d) (hR : roX M a W ls) (hW : ∀ x k, W x k ≤ 4) (hk : k < 3) (h : Q (some (vI (nI (mnR (fun c => W c k) 4 ls)))) M) : Cl X d 0 0 m_X8_fewest [vR a, vI (nI k)] M Q := by
  obtain ⟨hS, K, g1, g2, g3, g4, g5, g6, g7⟩ := id hR
  have key : ∀ (xs pre : List Nat) (m : Nat), ls = pre ++ xs → m ≤ 4 → Q (some (vI (nI (mnR (fun c => W c k) m xs)))) M → WA X d 0 0 m_X8_fewest 4 [some (vR a), some (vI (nI k)), some (vI (nI m)), some (vI (nI pre.length))] [] M Q := by
    intro xs
    induction xs with
    | nil =>
      intro pre m hls hm hq
      have hl : ls.length = pre.length := by rw [hls]; simp
      exact b_X8_fewest_4 hS hd ⟨fun _ => hq, fun q => absurd (by rw [g5, na_le (by omega) (by omega)]; omega) q⟩
    | cons y xs ih =>
      intro pre m hls hm hq
      have hy : ls[pre.length]? = some y := by rw [hls]; simp
      have hlt := (List.getElem?_eq_some_iff.mp hy).1
      have hw := hW y k
      refine b_X8_fewest_4 hS hd ⟨fun q => absurd (by rw [g5, na_le (by omega) (by omega)] at q; omega) (id : False → False), fun _ => kp_winsOf hR hW hk hy ⟨_, rfl, Ext.refl _, fun x2 e2 => ?_⟩⟩
      rw [minI_n (by omega) (by omega)] at e2
      have hmm : min m (W y k) ≤ 4 := Nat.le_trans (Nat.min_le_left _ _) hm
      have hn := ih (pre ++ [y]) (min m (W y k)) (by rw [hls]; simp) hmm hq
      rw [show (pre ++ [y]).length = pre.length + 1 by simp] at hn
      rw [e2, nI_add]; exact hn
  exact e_X8_fewest (b_X8_fewest_0 hS (key ls [] 4 rfl (by decide) h))
theorem kp_earliest {v : Nat} (hd : 1 ≤ d) (hR : roX M a W ls) (hW : ∀ x k, W x k ≤ 4) (hk : k < 3) (hv : v < 2 ^ 31) (h : Q (some (vI (oI (ls.find? (fun c => decide (W c k = v)))))) M) : Cl X d 0 0 m_X8_earliest [vR a, vI (nI k), vI (nI v)] M Q := by
  obtain ⟨hS, K, g1, g2, g3, g4, g5, g6, g7⟩ := id hR
  have key : ∀ (xs pre : List Nat), ls = pre ++ xs → Q (some (vI (oI (xs.find? (fun c => decide (W c k = v)))))) M → WA X d 0 0 m_X8_earliest 2 [some (vR a), some (vI (nI k)), some (vI (nI v)), some (vI (nI pre.length))] [] M Q := by
    intro xs
    induction xs with
    | nil =>
      intro pre hls hq
      have hl : ls.length = pre.length := by rw [hls]; simp
      exact b_X8_earliest_2 hS hd ⟨fun _ => hq, fun q => absurd (by rw [g5, na_le (by omega) (by omega)]; omega) q⟩
    | cons y xs ih =>
      intro pre hls hq
      have hy : ls[pre.length]? = some y := by rw [hls]; simp
      have hlt := (List.getElem?_eq_some_iff.mp hy).1
      have hw := hW y k
      rw [List.find?_cons] at hq
      refine b_X8_earliest_2 hS hd ⟨fun q => absurd (by rw [g5, na_le (by omega) (by omega)] at q; omega) (id : False → False), fun _ => kp_winsOf hR hW hk hy ⟨_, rfl, Ext.refl _, fun q => ?_, fun q => ⟨K, g2, na_in (by omega) (by omega), ?_⟩⟩⟩
      · rw [na_eq (by omega) (by omega)] at q
        rw [decide_eq_false q] at hq
        have hn := ih (pre ++ [y]) (by rw [hls]; simp) hq
        rw [show (pre ++ [y]).length = pre.length + 1 by simp] at hn
        rw [nI_add]; exact hn
      · rw [na_eq (by omega) (by omega)] at q
        rw [decide_eq_true q] at hq
        have e := g6 _ _ hy
        rw [Nat.zero_add] at e
        rw [na_ix (by omega), e]; exact hq
  exact e_X8_earliest (b_X8_earliest_0 hS (key ls [] rfl h))
/-- how many win from lo to hi; hi may be -1 -/
theorem kp_howMany {lo : Nat} {hi : Int32} {H : Nat → Bool} (hd : 1 ≤ d) (hR : roX M a W ls) (hW : ∀ x k, W x k ≤ 4) (hk : k < 3) (hlo : lo < 2 ^ 31) (hH : ∀ v, v ≤ 4 → (hi < nI v ↔ H v = false)) (h : Q (some (vI (nI (ls.filter (fun c => decide (lo ≤ W c k) && H (W c k))).length))) M) : Cl X d 0 0 m_X8_howMany [vR a, vI (nI k), vI (nI lo), vI hi] M Q := by
  obtain ⟨hS, K, g1, g2, g3, g4, g5, g6, g7⟩ := id hR
  have key : ∀ (xs pre : List Nat) (m : Nat), ls = pre ++ xs → Q (some (vI (nI (m + (xs.filter (fun c => decide (lo ≤ W c k) && H (W c k))).length)))) M → WA X d 0 0 m_X8_howMany 6 [some (vR a), some (vI (nI k)), some (vI (nI lo)), some (vI hi), some (vI (nI m)), some (vI (nI pre.length)), none] [] M Q := by
    intro xs
    induction xs with
    | nil =>
      intro pre m hls hq
      have hl : ls.length = pre.length := by rw [hls]; simp
      exact b_X8_howMany_6 hS hd ⟨fun _ => hq, fun q => absurd (by rw [g5, na_le (by omega) (by omega)]; omega) q⟩
    | cons y xs ih =>
      intro pre m hls hq
      have hy : ls[pre.length]? = some y := by rw [hls]; simp
      have hlt := (List.getElem?_eq_some_iff.mp hy).1
      have hw := hW y k
      have no : (decide (lo ≤ W y k) && H (W y k)) = false → WA X d 0 0 m_X8_howMany 6 [some (vR a), some (vI (nI k)), some (vI (nI lo)), some (vI hi), some (vI (nI m)), some (vI (nI pre.length + nI 1)), none] [] M Q := fun hf => by
        rw [List.filter_cons, if_neg (by rw [hf]; decide)] at hq
        have hn := ih (pre ++ [y]) m (by rw [hls]; simp) hq
        rw [show (pre ++ [y]).length = pre.length + 1 by simp] at hn
        rw [nI_add]; exact hn
      refine b_X8_howMany_6 hS hd ⟨fun q => absurd (by rw [g5, na_le (by omega) (by omega)] at q; omega) (id : False → False), fun _ => kp_winsOf hR hW hk hy ⟨_, rfl, Ext.refl _, fun q => no ?_, fun q => ⟨fun q2 => no ?_, fun q2 => ?_⟩⟩⟩
      · rw [na_lt (by omega) (by omega)] at q
        rw [decide_eq_false (by omega)]; rfl
      · rw [hH _ hw] at q2
        rw [q2, Bool.and_false]
      · rw [na_lt (by omega) (by omega)] at q
        rw [hH _ hw] at q2
        rw [List.filter_cons, if_pos (by rw [decide_eq_true (show lo ≤ W y k by omega), Bool.true_and]; simpa using q2)] at hq
        have hn := ih (pre ++ [y]) (m + 1) (by rw [hls]; simp) (by rw [List.length_cons] at hq; rw [show m + 1 + (xs.filter (fun c => decide (lo ≤ W c k) && H (W c k))).length = m + ((xs.filter (fun c => decide (lo ≤ W c k) && H (W c k))).length + 1) by omega]; exact hq)
        rw [show (pre ++ [y]).length = pre.length + 1 by simp] at hn
        rw [nI_add, nI_add]; exact hn
  exact e_X8_howMany (b_X8_howMany_0 hS (key ls [] 0 rfl (by rw [Nat.zero_add]; exact h)))
end ROLL
