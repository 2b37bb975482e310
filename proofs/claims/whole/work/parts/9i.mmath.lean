/-! THE MIND'S MATHEMATICS: the first of the best, the second best -/
def fbF (gr : Bool) (W : Nat → Int) (xs : List Nat) (b : Option (Int × Nat)) : Option (Int × Nat) := xs.foldl (fun b c => ofT gr b c (W c)) b
theorem ofT_bn (gr : Bool) (b : Option (Int × Nat)) (s : Option Int) (c : Nat) (v : Int) : (bnT gr (b.map (·.1), s) v).1 = (ofT gr b c v).map (·.1) := by
  unfold bnT ofT
  cases b with
  | none => rfl
  | some q =>
    show (if (if gr = true then q.1 < v else v < q.1) then (some v, some q.1) else (some q.1, some (beI gr s v))).1 = (if (if gr = true then q.1 < v else v < q.1) then some (v, c) else some q).map (·.1)
    split <;> split <;> rfl
theorem fb_bn (gr : Bool) (W : Nat → Int) : ∀ (xs : List Nat) (b : Option (Int × Nat)) (s : Option Int), (xs.foldl (fun q c => bnT gr q (W c)) (b.map (·.1), s)).1 = (fbF gr W xs b).map (·.1)
  | [], b, s => rfl
  | x :: xs, b, s => by
    have e := ofT_bn gr b s x (W x)
    show (xs.foldl (fun q c => bnT gr q (W c)) (bnT gr (b.map (·.1), s) (W x))).1 = (fbF gr W xs (ofT gr b x (W x))).map (·.1)
    rw [← fb_bn gr W xs (ofT gr b x (W x)) (bnT gr (b.map (·.1), s) (W x)).2, ← e]
/-- how many are at least as good as v, and how many are better -/
def ceN (gr : Bool) (W : Nat → Int) (v : Int) (xs : List Nat) : Nat := xs.countP (fun c => if gr then decide (v ≤ W c) else decide (W c ≤ v))
def ctN (gr : Bool) (W : Nat → Int) (v : Int) (xs : List Nat) : Nat := xs.countP (fun c => if gr then decide (v < W c) else decide (W c < v))
section SECOND
variable {gr : Bool} {W : Nat → Int}
theorem ce_cons (v : Int) (c : Nat) (xs : List Nat) : ceN gr W v (c :: xs) = ceN gr W v xs + if (if gr then v ≤ W c else W c ≤ v) then 1 else 0 := by
  unfold ceN
  rw [List.countP_cons]
  cases gr <;> simp
theorem ct_cons (v : Int) (c : Nat) (xs : List Nat) : ctN gr W v (c :: xs) = ctN gr W v xs + if (if gr then v < W c else W c < v) then 1 else 0 := by
  unfold ctN
  rw [List.countP_cons]
  cases gr <;> simp
theorem ce_mono {v w : Int} (h : if gr then w ≤ v else v ≤ w) : ∀ xs, ceN gr W v xs ≤ ceN gr W w xs
  | [] => Nat.le_refl _
  | c :: xs => by
    have ih := ce_mono h xs
    rw [ce_cons, ce_cons]
    cases gr
    · simp only [Bool.false_eq_true, if_false] at h ⊢
      split
      · rw [if_pos (by omega)]; omega
      · omega
    · simp only [if_true] at h ⊢
      split
      · rw [if_pos (by omega)]; omega
      · omega
theorem ct_mono {v w : Int} (h : if gr then w ≤ v else v ≤ w) : ∀ xs, ctN gr W v xs ≤ ctN gr W w xs
  | [] => Nat.le_refl _
  | c :: xs => by
    have ih := ct_mono h xs
    rw [ct_cons, ct_cons]
    cases gr
    · simp only [Bool.false_eq_true, if_false] at h ⊢
      split
      · rw [if_pos (by omega)]; omega
      · omega
    · simp only [if_true] at h ⊢
      split
      · rw [if_pos (by omega)]; omega
      · omega
theorem ce_ct {v w : Int} (h : if gr then w < v else v < w) : ∀ xs, ceN gr W v xs ≤ ctN gr W w xs
  | [] => Nat.le_refl _
  | c :: xs => by
    have ih := ce_ct h xs
    rw [ce_cons, ct_cons]
    cases gr
    · simp only [Bool.false_eq_true, if_false] at h ⊢
      split
      · rw [if_pos (by omega)]; omega
      · omega
    · simp only [if_true] at h ⊢
      split
      · rw [if_pos (by omega)]; omega
      · omega
theorem sec_uniq {v w : Int} {xs : List Nat} (h1 : 2 ≤ ceN gr W v xs ∧ ctN gr W v xs ≤ 1) (h2 : 2 ≤ ceN gr W w xs ∧ ctN gr W w xs ≤ 1) : v = w := by
  rcases Int.lt_trichotomy v w with h | h | h
  · cases gr
    · have := ce_ct (gr := false) (W := W) (v := v) (w := w) (by simpa using h) xs; omega
    · have := ce_ct (gr := true) (W := W) (v := w) (w := v) (by simpa using h) xs; omega
  · exact h
  · cases gr
    · have := ce_ct (gr := false) (W := W) (v := w) (w := v) (by simpa using h) xs; omega
    · have := ce_ct (gr := true) (W := W) (v := v) (w := w) (by simpa using h) xs; omega
theorem ite1 (p : Prop) [Decidable p] : (if p then 1 else 0 : Nat) ≤ 1 := by split <;> omega
def atl (gr : Bool) (W : Nat → Int) (v : Int) (c : Nat) : Bool := if gr then decide (v ≤ W c) else decide (W c ≤ v)
def prR (gr : Bool) (W : Nat → Int) : List Nat → Option (Int × Nat) × Int
  | [] => (none, 0)
  | [y] => (none, W y)
  | c :: y :: ys => prT gr W c (prR gr W (y :: ys))
theorem prR_fold : ∀ (ys : List Nat) (y : Nat), (y :: ys).dropLast.foldr (prT gr W) (none, W ((y :: ys).getD ((y :: ys).length - 1) 0)) = prR gr W (y :: ys)
  | [], y => rfl
  | z :: ys, y => by
    have ih := prR_fold ys z
    show prT gr W y ((z :: ys).dropLast.foldr (prT gr W) (none, W ((y :: z :: ys).getD ((y :: z :: ys).length - 1) 0))) = prT gr W y (prR gr W (z :: ys))
    rw [← ih]
    rfl
theorem prF_R {y z : Nat} {ys : List Nat} : prF gr W (y :: z :: ys) = (prR gr W (y :: z :: ys)).1 := by
  unfold prF
  rw [if_neg (by simp), prR_fold]
theorem prR_ok : ∀ (ys : List Nat) (y : Nat), (1 ≤ ceN gr W (prR gr W (y :: ys)).2 (y :: ys) ∧ ctN gr W (prR gr W (y :: ys)).2 (y :: ys) = 0) ∧ (ys ≠ [] → ∃ v n, (prR gr W (y :: ys)).1 = some (v, n) ∧ 2 ≤ ceN gr W v (y :: ys) ∧ ctN gr W v (y :: ys) ≤ 1 ∧ (y :: ys).find? (atl gr W v) = some n) ∧ (ys = [] → (prR gr W (y :: ys)).1 = none)
  | [], y => by
    refine ⟨?_, fun h => absurd rfl h, fun _ => rfl⟩
    show 1 ≤ ceN gr W (W y) [y] ∧ ctN gr W (W y) [y] = 0
    rw [ce_cons, ct_cons]
    cases gr <;> simp [ceN, ctN]
  | z :: ys, y => by
    obtain ⟨⟨b1, b2⟩, h2, h3⟩ := prR_ok ys z
    have e : prR gr W (y :: z :: ys) = prT gr W y (prR gr W (z :: ys)) := rfl
    rw [e]
    cases hq : prR gr W (z :: ys) with
    | mk q1 b =>
    rw [hq] at b1 b2 h2 h3
    dsimp only at b1 b2 h2 h3
    have hb' : (prT gr W y (q1, b)).2 = beI gr (some b) (W y) := rfl
    have hbest : 1 ≤ ceN gr W (beI gr (some b) (W y)) (y :: z :: ys) ∧ ctN gr W (beI gr (some b) (W y)) (y :: z :: ys) = 0 := by
      unfold beI
      dsimp only
      by_cases hc : (if gr = true then b < W y else W y < b)
      · rw [if_pos hc]
        have hm := ct_mono (gr := gr) (W := W) (v := W y) (w := b) (by cases gr <;> simp at hc ⊢ <;> omega) (z :: ys)
        rw [ce_cons (W y) y, ct_cons (W y) y]
        constructor
        · rw [if_pos (by cases gr <;> simp)]; omega
        · rw [if_neg (by cases gr <;> simp)]; omega
      · rw [if_neg hc, ce_cons b y, ct_cons b y, if_neg hc]
        omega
    refine ⟨by rw [hb']; exact hbest, fun _ => ?_, fun h => by cases h⟩
    have hval : (if gr = true then opI gr (W y) b ≤ W y else W y ≤ opI gr (W y) b) ∧ (if gr = true then opI gr (W y) b ≤ b else b ≤ opI gr (W y) b) ∧ (opI gr (W y) b = W y ∨ opI gr (W y) b = b) := by
      unfold opI
      cases gr <;> simp <;> omega
    obtain ⟨v1, v2, v3⟩ := hval
    -- c and its like behind it
    have newp : (∀ v, q1 = some v → (if gr = true then v.1 ≤ opI gr (W y) b else opI gr (W y) b ≤ v.1)) → ∃ v n, some (opI gr (W y) b, y) = some (v, n) ∧ 2 ≤ ceN gr W v (y :: z :: ys) ∧ ctN gr W v (y :: z :: ys) ≤ 1 ∧ (y :: z :: ys).find? (atl gr W v) = some n := fun hle => by
      refine ⟨_, _, rfl, ?_, ?_, ?_⟩
      · have hm := ce_mono (gr := gr) (W := W) (v := b) (w := opI gr (W y) b) v2 (z :: ys)
        rw [ce_cons _ y, if_pos v1]; omega
      · rw [ct_cons _ y]
        by_cases hw : opI gr (W y) b = W y
        · rw [hw] at hle ⊢
          rw [if_neg (by cases gr <;> simp)]
          cases q1 with
          | none =>
            have hys : ys = [] := Classical.byContradiction (fun hn => by obtain ⟨v, n, h, -⟩ := h2 hn; cases h)
            subst hys
            have : ctN gr W (W y) [z] ≤ 1 := by unfold ctN; exact List.countP_le_length
            omega
          | some v =>
            have hys : ys ≠ [] := fun hn => by have := h3 hn; cases this
            obtain ⟨v', n', g1, g2, g3, g4⟩ := h2 hys
            cases g1
            have hm := ct_mono (gr := gr) (W := W) (v := W y) (w := v') (hle _ rfl) (z :: ys)
            omega
        · have hw2 : opI gr (W y) b = b := by rcases v3 with w | w; exact absurd w hw; exact w
          rw [hw2]
          have hle1 := ite1 (if gr = true then b < W y else W y < b)
          omega
      · rw [List.find?_cons]
        have : atl gr W (opI gr (W y) b) y = true := by unfold atl; cases gr <;> simp at v1 ⊢ <;> omega
        rw [this]
    cases q1 with
    | none => exact newp (fun v hv => by cases hv)
    | some v =>
      by_cases hc : (if gr = true then v.1 ≤ opI gr (W y) b else opI gr (W y) b ≤ v.1)
      · have e2 : (prT gr W y (some v, b)).1 = some (opI gr (W y) b, y) := if_pos hc
        rw [e2]
        exact newp (fun v' hv => by cases hv; exact hc)
      · have e2 : (prT gr W y (some v, b)).1 = some v := if_neg hc
        rw [e2]
        have hys : ys ≠ [] := fun hn => by have := h3 hn; cases this
        obtain ⟨v', n', g1, g2, g3, g4⟩ := h2 hys
        cases g1
        have hbv : if gr = true then v' ≤ b else b ≤ v' := by
          refine Classical.byContradiction (fun hn => ?_)
          have := ce_ct (gr := gr) (W := W) (v := v') (w := b) (by cases gr <;> simp at hn ⊢ <;> omega) (z :: ys)
          omega
        have hyv : ¬ (if gr = true then v' ≤ W y else W y ≤ v') := by
          intro hn
          apply hc
          rcases v3 with w | w
          · rw [w]; exact hn
          · rw [w]; exact hbv
        refine ⟨v', n', rfl, ?_, ?_, ?_⟩
        · rw [ce_cons _ y]; omega
        · rw [ct_cons _ y, if_neg (by cases gr <;> simp at hyv ⊢ <;> omega)]; omega
        · rw [List.find?_cons]
          have : atl gr W v' y = false := by unfold atl; cases gr <;> simp at hyv ⊢ <;> omega
          rw [this]; exact g4
/-- what bnT has after so many -/
def bnOK (gr : Bool) (W : Nat → Int) (pre : List Nat) (q : Option Int × Option Int) : Prop := ∃ b, q.1 = some b ∧ (1 ≤ ceN gr W b pre ∧ ctN gr W b pre = 0) ∧ ((pre.length = 1 ∧ q.2 = none) ∨ (2 ≤ pre.length ∧ ∃ s, q.2 = some s ∧ 2 ≤ ceN gr W s pre ∧ ctN gr W s pre ≤ 1))
theorem ce_snoc (v : Int) (c : Nat) (xs : List Nat) : ceN gr W v (xs ++ [c]) = ceN gr W v xs + if (if gr then v ≤ W c else W c ≤ v) then 1 else 0 := by
  unfold ceN
  rw [List.countP_append]
  congr 1
  rw [List.countP_cons]
  cases gr <;> simp
theorem ct_snoc (v : Int) (c : Nat) (xs : List Nat) : ctN gr W v (xs ++ [c]) = ctN gr W v xs + if (if gr then v < W c else W c < v) then 1 else 0 := by
  unfold ctN
  rw [List.countP_append]
  congr 1
  rw [List.countP_cons]
  cases gr <;> simp
theorem bn_step {pre : List Nat} {q : Option Int × Option Int} {c : Nat} (h : bnOK gr W pre q) : bnOK gr W (pre ++ [c]) (bnT gr q (W c)) := by
  obtain ⟨b, h1, ⟨h2, h3⟩, h4⟩ := h
  obtain ⟨q1, q2⟩ := q
  dsimp only at h1 h4
  subst h1
  by_cases hc : (if gr = true then b < W c else W c < b)
  · have e : bnT gr (some b, q2) (W c) = (some (W c), some b) := if_pos hc
    rw [e]
    have hm := ct_mono (gr := gr) (W := W) (v := W c) (w := b) (by cases gr <;> simp at hc ⊢ <;> omega) pre
    refine ⟨W c, rfl, ⟨?_, ?_⟩, Or.inr ⟨by rw [List.length_append]; rcases h4 with h | h <;> simp <;> omega, b, rfl, ?_, ?_⟩⟩
    · rw [ce_snoc, if_pos (by cases gr <;> simp)]; omega
    · rw [ct_snoc, if_neg (by cases gr <;> simp)]; omega
    · rw [ce_snoc, if_pos (by cases gr <;> simp at hc ⊢ <;> omega)]; omega
    · rw [ct_snoc, if_pos hc]; omega
  · have e : bnT gr (some b, q2) (W c) = (some b, some (beI gr q2 (W c))) := if_neg hc
    rw [e]
    have hbc : if gr = true then W c ≤ b else b ≤ W c := by cases gr <;> simp at hc ⊢ <;> omega
    have hmb := ce_mono (gr := gr) (W := W) (v := b) (w := W c) hbc pre
    refine ⟨b, rfl, ⟨?_, ?_⟩, Or.inr ⟨by rw [List.length_append]; rcases h4 with h | h <;> simp <;> omega, _, rfl, ?_⟩⟩
    · rw [ce_snoc]; omega
    · rw [ct_snoc, if_neg hc]; omega
    · rcases h4 with ⟨l1, rfl⟩ | ⟨l2, s, rfl, s1, s2⟩
      · have e2 : beI gr none (W c) = W c := rfl
        rw [e2, ce_snoc, ct_snoc, if_pos (by cases gr <;> simp), if_neg (by cases gr <;> simp)]
        have : ctN gr W (W c) pre ≤ 1 := by unfold ctN; exact Nat.le_trans List.countP_le_length (by omega)
        omega
      · by_cases hs : (if gr = true then s < W c else W c < s)
        · have e2 : beI gr (some s) (W c) = W c := if_pos hs
          have hm := ct_mono (gr := gr) (W := W) (v := W c) (w := s) (by cases gr <;> simp at hs ⊢ <;> omega) pre
          rw [e2, ce_snoc, ct_snoc, if_pos (by cases gr <;> simp), if_neg (by cases gr <;> simp)]
          omega
        · have e2 : beI gr (some s) (W c) = s := if_neg hs
          rw [e2, ce_snoc, ct_snoc, if_neg hs]
          omega
theorem bn_one (c : Nat) : bnOK gr W [c] (bnT gr (none, none) (W c)) := by
  refine ⟨W c, rfl, ?_, Or.inl ⟨rfl, rfl⟩⟩
  rw [ce_cons, ct_cons]
  cases gr <;> simp [ceN, ctN]
theorem bn_fold : ∀ (ys pre : List Nat) (q : Option Int × Option Int), bnOK gr W pre q → bnOK gr W (pre ++ ys) (ys.foldl (fun q c => bnT gr q (W c)) q)
  | [], pre, q, h => by rw [List.append_nil]; exact h
  | c :: ys, pre, q, h => by
    have := bn_fold ys (pre ++ [c]) _ (bn_step (c := c) h)
    rw [List.append_assoc] at this
    exact this
/-- of two cuts: the second best is what comes, by the first that is worth so much -/
theorem prF_two {y z : Nat} {ys : List Nat} : ∃ s n, (((y :: z :: ys).foldl (fun q c => bnT gr q (W c)) (none, none)).2 = some s ∧ prF gr W (y :: z :: ys) = some (s, n) ∧ (y :: z :: ys).find? (atl gr W s) = some n) := by
  have hb : bnOK gr W (y :: z :: ys) ((y :: z :: ys).foldl (fun q c => bnT gr q (W c)) (none, none)) := bn_fold (z :: ys) [y] _ (bn_one y)
  obtain ⟨b, -, -, h⟩ := hb
  rcases h with ⟨h, -⟩ | ⟨-, s, h1, h2, h3⟩
  · simp at h
  · obtain ⟨v, n, g1, g2, g3, g4⟩ := (prR_ok (gr := gr) (W := W) (z :: ys) y).2.1 (by simp)
    have : v = s := sec_uniq ⟨g2, g3⟩ ⟨h2, h3⟩
    subst this
    exact ⟨v, n, h1, by rw [prF_R, g1], g4⟩
end SECOND
