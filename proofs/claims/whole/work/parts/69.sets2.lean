/-! SETS: one parish more at a time; who is told on by whom; what can still become of a set -/
theorem Conn_one {B : Nat → Nat} (p : Nat) : Conn B (2 ^ p) := fun c hc hs _ => by
  obtain ⟨q, hq⟩ := ne0_ex hc
  have h1 := hs q hq
  rw [Nat.testBit_two_pow] at h1
  have hpq := of_decide_eq_true h1
  subst hpq
  refine sub_eq hs (fun q' h' => ?_)
  rw [Nat.testBit_two_pow] at h'
  rw [← of_decide_eq_true h']; exact hq
theorem Conn_ins {B : Nat → Nat} (hsy : ∀ p q, (B p).testBit q = (B q).testBit p) {r p : Nat} (hr : Conn B r) (hadj : ∃ q, (B p).testBit q = true ∧ r.testBit q = true) : Conn B (r ||| 2 ^ p) := fun c hc hs hcl => by
  obtain ⟨q, h1, h2⟩ := hadj
  have hmem : ∀ x, (r ||| 2 ^ p).testBit x = (r.testBit x || decide (x = p)) := fun x => tb_ins
  have hand : ∀ x, (c &&& r).testBit x = true ↔ c.testBit x = true ∧ r.testBit x = true := fun x => by
    rw [Nat.testBit_and]; cases c.testBit x <;> cases r.testBit x <;> simp
  have hq2 : (r ||| 2 ^ p).testBit q = true := by rw [hmem, h2]; rfl
  have hp2 : (r ||| 2 ^ p).testBit p = true := by rw [hmem, decide_eq_true rfl, Bool.or_true]
  by_cases h0 : c &&& r = 0
  · -- it is p alone
    exfalso
    obtain ⟨x, hx⟩ := ne0_ex hc
    have hxp : x = p := by
      have := hs x hx
      rw [hmem] at this
      cases hrx : r.testBit x with
      | true =>
        have := (hand x).mpr ⟨hx, hrx⟩
        rw [h0, Nat.zero_testBit] at this; cases this
      | false => rw [hrx, Bool.false_or] at this; exact of_decide_eq_true this
    subst hxp
    have := hcl x hx q h1 hq2
    have := (hand q).mpr ⟨this, h2⟩
    rw [h0, Nat.zero_testBit] at this; cases this
  · have e : c &&& r = r := hr _ h0 (fun x hx => ((hand x).mp hx).2) (fun x hx y hy hyr => by
      refine (hand y).mpr ⟨hcl x ((hand x).mp hx).1 y hy ?_, hyr⟩
      rw [hmem, hyr]; rfl)
    have hrc : sub r c := fun x hx => by rw [← e] at hx; exact ((hand x).mp hx).1
    refine sub_eq hs (fun x hx => ?_)
    rw [hmem] at hx
    cases hrx : r.testBit x with
    | true => exact hrc x hrx
    | false =>
      rw [hrx, Bool.false_or] at hx
      have hxp := of_decide_eq_true hx
      subst hxp
      exact hcl q (hrc q h2) x (by rw [hsy]; exact h1) hp2
/-- a part of each size hangs together -/
theorem Conn_part {B : Nat → Nat} {n set : Nat} (hsy : ∀ p q, (B p).testBit q = (B q).testBit p) (hs : set < 2 ^ n) (hC : Conn B set) : ∀ k, 1 ≤ k → k ≤ cnt n set → ∃ r, sub r set ∧ cnt n r = k ∧ Conn B r ∧ r ≠ 0
  | 0, h, _ => by omega
  | 1, _, h => by
    have h0 : set ≠ 0 := fun z => by rw [z, cnt_0] at h; omega
    obtain ⟨q, hq⟩ := ne0_ex h0
    refine ⟨2 ^ q, fun x hx => ?_, ?_, Conn_one q, fun z => by have := Nat.two_pow_pos q; omega⟩
    · rw [Nat.testBit_two_pow] at hx
      rw [← of_decide_eq_true hx]; exact hq
    · have := cnt_ins (a := 0) (p := q) (Nat.zero_testBit q) n
      rw [Nat.zero_or, cnt_0, if_pos (tbL hs hq)] at this
      exact this
  | k + 2, _, h => by
    obtain ⟨r, h1, h2, h3, h4⟩ := Conn_part hsy hs hC (k + 1) (by omega) (by omega)
    -- one of r is beside one that is not of r
    have : ∃ q p, r.testBit q = true ∧ (B q).testBit p = true ∧ set.testBit p = true ∧ r.testBit p = false := by
      refine Classical.byContradiction (fun hno => ?_)
      have e := hC r h4 h1 (fun q hq p hp hps => by
        cases hb : r.testBit p with
        | true => rfl
        | false => exact absurd ⟨q, p, hq, hp, hps, hb⟩ hno)
      rw [e] at h2; omega
    obtain ⟨q, p, g1, g2, g3, g4⟩ := this
    refine ⟨r ||| 2 ^ p, fun x hx => ?_, ?_, Conn_ins hsy h3 ⟨q, by rw [hsy]; exact g2, g1⟩, fun z => ?_⟩
    · rw [tb_ins] at hx
      cases hb : r.testBit x with
      | true => exact h1 x hb
      | false => rw [hb, Bool.false_or] at hx; rw [of_decide_eq_true hx]; exact g3
    · rw [cnt_ins g4, h2, if_pos (tbL hs g3)]
    · have : (r ||| 2 ^ p).testBit p = true := by rw [tb_ins, decide_eq_true rfl, Bool.or_true]
      rw [z, Nat.zero_testBit] at this; cases this
theorem dif_ins {s p : Nat} (h : s.testBit p = true) : dif s (2 ^ p) ||| 2 ^ p = s := by
  apply Nat.eq_of_testBit_eq
  intro q
  rw [tb_ins, tb_dif, Nat.testBit_two_pow]
  by_cases hq : p = q
  · subst hq; rw [h]; simp
  · rw [decide_eq_false hq, decide_eq_false (fun z => hq z.symm)]; simp
theorem dif_no {s p : Nat} (h : s.testBit p = false) : dif s (2 ^ p) = s := by
  apply Nat.eq_of_testBit_eq
  intro q
  rw [tb_dif, Nat.testBit_two_pow]
  by_cases hq : p = q
  · subst hq; rw [h]; rfl
  · rw [decide_eq_false hq]; simp
theorem dif_sm {s p : Nat} (h : s.testBit p = true) : dif s (2 ^ p) < s := by
  have e := dif_ins h
  have hd : (dif s (2 ^ p)).testBit p = false := by rw [tb_dif, Nat.testBit_two_pow, decide_eq_true rfl]; simp
  rcases Nat.lt_or_ge (dif s (2 ^ p)) s with z | z
  · exact z
  · have hge : dif s (2 ^ p) ≤ dif s (2 ^ p) ||| 2 ^ p := Nat.left_le_or
    rw [e] at hge
    have : dif s (2 ^ p) = s := by omega
    rw [this, h] at hd; cases hd
/-- what hangs together: one alone, or one beside what hangs together -/
theorem Conn_step {B : Nat → Nat} {n set : Nat} (hsy : ∀ p q, (B p).testBit q = (B q).testBit p) (h0 : set ≠ 0) (hs : set < 2 ^ n) : Conn B set ↔ (∃ p, set = 2 ^ p) ∨ ∃ p, p < n ∧ set.testBit p = true ∧ (B p &&& dif set (2 ^ p)) ≠ 0 ∧ Conn B (dif set (2 ^ p)) := by
  constructor
  · intro hC
    by_cases h1 : cnt n set ≤ 1
    · left
      obtain ⟨q, hq⟩ := ne0_ex h0
      refine ⟨q, (cnt_eq (n := n) (fun x hx => ?_) hs ?_).symm⟩
      · rw [Nat.testBit_two_pow] at hx
        rw [← of_decide_eq_true hx]; exact hq
      · have := cnt_ins (a := 0) (p := q) (Nat.zero_testBit q) n
        rw [Nat.zero_or, cnt_0, if_pos (tbL hs hq)] at this
        omega
    · right
      obtain ⟨r, h2, h3, h4, h5⟩ := Conn_part hsy hs hC (cnt n set - 1) (by omega) (by omega)
      have : ∃ q p, r.testBit q = true ∧ (B q).testBit p = true ∧ set.testBit p = true ∧ r.testBit p = false := by
        refine Classical.byContradiction (fun hno => ?_)
        have e := hC r h5 h2 (fun q hq p hp hps => by
          cases hb : r.testBit p with
          | true => rfl
          | false => exact absurd ⟨q, p, hq, hp, hps, hb⟩ hno)
        rw [e] at h3; omega
      obtain ⟨q, p, g1, g2, g3, g4⟩ := this
      have hrs : r ||| 2 ^ p = set := by
        refine cnt_eq (n := n) (fun x hx => ?_) hs ?_
        · rw [tb_ins] at hx
          cases hb : r.testBit x with
          | true => exact h2 x hb
          | false => rw [hb, Bool.false_or] at hx; rw [of_decide_eq_true hx]; exact g3
        · rw [cnt_ins g4, h3, if_pos (tbL hs g3)]; omega
      have hd : dif set (2 ^ p) = r := by
        apply Nat.eq_of_testBit_eq
        intro x
        rw [tb_dif, ← hrs, tb_ins, Nat.testBit_two_pow]
        by_cases hx : p = x
        · subst hx; rw [g4]; simp
        · rw [decide_eq_false hx, decide_eq_false (fun z => hx z.symm)]; simp
      refine ⟨p, tbL hs g3, g3, fun z => ?_, by rw [hd]; exact h4⟩
      have : (B p &&& dif set (2 ^ p)).testBit q = true := by
        rw [Nat.testBit_and, hd, g1, hsy, g2]; rfl
      rw [z, Nat.zero_testBit] at this; cases this
  · intro h
    rcases h with ⟨p, rfl⟩ | ⟨p, h1, h2, h3, h4⟩
    · exact Conn_one p
    · obtain ⟨q, hq⟩ := ne0_ex h3
      rw [Nat.testBit_and] at hq
      have g1 : (B p).testBit q = true := by cases hb : (B p).testBit q <;> simp_all
      have g2 : (dif set (2 ^ p)).testBit q = true := by cases hb : (dif set (2 ^ p)).testBit q <;> simp_all
      have := Conn_ins (p := p) hsy h4 ⟨q, g1, g2⟩
      rw [dif_ins h2] at this; exact this
/-! who is told on by whom: the class's way -/
def gaR (f : Nat → Nat) : Nat → Nat → Nat
  | 0, p => f p
  | k + 1, p => if (gaR f k p).testBit k then gaR f k p ||| gaR f k k else gaR f k p
theorem gaR_ge {f : Nat → Nat} : ∀ k p, sub (f p) (gaR f k p)
  | 0, _ => sub_rfl
  | k + 1, p => sub_tr (gaR_ge k p) (fun q hq => by
    unfold gaR; split
    · rw [Nat.testBit_or, hq]; rfl
    · exact hq)
theorem gaR_le {f : Nat → Nat} {T : Nat → Nat} {n c : Nat} (hc : cl T n c) (hf : ∀ p, p < n → c.testBit p = true → sub (f p) c) : ∀ k p, k ≤ n → p < n → c.testBit p = true → sub (gaR f k p) c
  | 0, p, _, hp, hb => hf p hp hb
  | k + 1, p, hk, hp, hb => fun q hq => by
    have h1 := gaR_le hc hf k p (by omega) hp hb
    unfold gaR at hq
    split at hq
    · rename_i hk2
      rw [Nat.testBit_or] at hq
      cases ha : (gaR f k p).testBit q with
      | true => exact h1 q ha
      | false => rw [ha, Bool.false_or] at hq; exact gaR_le hc hf k k (by omega) (by omega) (h1 k hk2) q hq
    · exact h1 q hq
theorem gaR_tr {f : Nat → Nat} : ∀ k p m, m < k → (gaR f k p).testBit m = true → sub (gaR f k m) (gaR f k p)
  | 0, _, m, h, _ => by omega
  | k + 1, p, m, hm, hb => by
    have ih := gaR_tr (f := f) k
    have eq1 : ∀ x y, (gaR f (k + 1) x).testBit y = true ↔ (gaR f k x).testBit y = true ∨ ((gaR f k x).testBit k = true ∧ (gaR f k k).testBit y = true) := fun x y => by
      show (if (gaR f k x).testBit k then gaR f k x ||| gaR f k k else gaR f k x).testBit y = true ↔ _
      split
      · rename_i h; rw [Nat.testBit_or]; cases (gaR f k x).testBit y <;> cases (gaR f k k).testBit y <;> simp [h]
      · rename_i h; simp [h]
    intro q hq
    rw [eq1] at hq hb ⊢
    by_cases hmk : m = k
    · subst hmk
      have hkp : (gaR f m p).testBit m = true := by
        rcases hb with h | h
        · exact h
        · exact h.1
      right
      refine ⟨hkp, ?_⟩
      rcases hq with h | h
      · exact h
      · exact h.2
    · have hmlt : m < k := by omega
      rcases hb with h | ⟨h1, h2⟩
      · have s1 := ih p m hmlt h
        rcases hq with g | ⟨g1, g2⟩
        · exact Or.inl (s1 q g)
        · exact Or.inr ⟨s1 k g1, g2⟩
      · have s1 := ih k m hmlt h2
        rcases hq with g | ⟨g1, g2⟩
        · exact Or.inr ⟨h1, s1 q g⟩
        · exact Or.inr ⟨h1, g2⟩
theorem gaR_clo {T : Nat → Nat} {n : Nat} (hn : n ≤ 9) (hT : ∀ p, T p < 2 ^ n) {p : Nat} (hp : p < n) : gaR (fun x => T x ||| 1 <<< x) n p = clo T n (2 ^ p) := by
  have hpl : 2 ^ p < 2 ^ n := Nat.pow_lt_pow_right (by decide) hp
  have own : ∀ x, ((fun x => T x ||| 1 <<< x) x).testBit x = true := fun x => by
    show (T x ||| 1 <<< x).testBit x = true
    rw [Nat.one_shiftLeft, tb_ins, decide_eq_true rfl, Bool.or_true]
  have hlt : ∀ x, x < n → (fun x => T x ||| 1 <<< x) x < 2 ^ n := fun x hx => Nat.or_lt_two_pow (hT x) (by rw [Nat.one_shiftLeft]; exact Nat.pow_lt_pow_right (by decide) hx)
  have hcc := clo_cl hn hT hpl
  have hpc : (clo T n (2 ^ p)).testBit p = true := clo_ge p (by rw [Nat.testBit_two_pow]; exact decide_eq_true rfl)
  refine sub_eq (gaR_le hcc (fun x hx hb q hq => ?_) n p (Nat.le_refl _) hp hpc) (clo_le (fun x hx hb => ?_) (fun q hq => ?_))
  · have hq : (T x ||| 1 <<< x).testBit q = true := hq
    rw [Nat.one_shiftLeft, tb_ins] at hq
    cases ht : (T x).testBit q with
    | true => exact hcc x hx hb q ht
    | false => rw [ht, Bool.false_or] at hq; rw [of_decide_eq_true hq]; exact hb
  · refine sub_tr (fun q hq => ?_) (gaR_tr n p x hx hb)
    refine gaR_ge n x q ?_
    show (T x ||| 1 <<< x).testBit q = true
    rw [Nat.testBit_or, hq]; rfl
  · rw [Nat.testBit_two_pow] at hq
    rw [← of_decide_eq_true hq]
    exact gaR_ge n p p (own p)
/-- parishes from p on (r of them) can be found that make of s what b asks -/
def hpF (b : Nat → Bool) (n : Nat) : Nat → Nat → Bool
  | 0, s => b s
  | r + 1, s => hpF b n r s || hpF b n r (s ||| 2 ^ (n - (r + 1)))
/-- the class's number for the set s -/
def haF (b : Nat → Bool) (n j s : Nat) : Nat := mkS (n + 1) (fun q => decide (j ≤ q) && decide (s < 2 ^ q) && hpF b n (n - q) s)
theorem haF_bit {b : Nat → Bool} {n j s q : Nat} (h1 : j ≤ q) (h2 : q ≤ n) (h3 : s < 2 ^ q) : (haF b n j s).testBit q = hpF b n (n - q) s := by
  unfold haF
  rw [tb_mkS, decide_eq_true (show q < n + 1 by omega), decide_eq_true h1, decide_eq_true h3]; rfl
theorem haF_n {b : Nat → Bool} {n j s : Nat} (h1 : j ≤ n) (h3 : s < 2 ^ n) : (haF b n j s).testBit n = b s := by
  rw [haF_bit h1 (Nat.le_refl _) h3, Nat.sub_self]; rfl
theorem haF_lt {b : Nat → Bool} {n j s : Nat} : haF b n j s < 2 ^ (n + 1) := mkS_lt _ _
theorem haF_top {b : Nat → Bool} {n s : Nat} (h : s < 2 ^ n) : haF b n n s = if b s then 2 ^ n else 0 := by
  apply Nat.eq_of_testBit_eq
  intro q
  unfold haF
  rw [tb_mkS]
  by_cases hq : q = n
  · subst hq
    rw [decide_eq_true (show q < q + 1 by omega), decide_eq_true (Nat.le_refl q), decide_eq_true h, Nat.sub_self]
    show b s = _
    cases hb : b s with
    | true => rw [if_pos rfl, Nat.testBit_two_pow, decide_eq_true rfl]
    | false => rw [if_neg (by decide), Nat.zero_testBit]
  · have e : (decide (q < n + 1) && (decide (n ≤ q) && decide (s < 2 ^ q) && hpF b n (n - q) s)) = false := by
      by_cases h1 : q < n + 1
      · rw [decide_eq_false (show ¬ n ≤ q by omega)]; simp
      · rw [decide_eq_false h1]; rfl
    rw [e]
    split
    · rw [Nat.testBit_two_pow, decide_eq_false (fun z => hq z.symm)]
    · rw [Nat.zero_testBit]
theorem haF_step {b : Nat → Bool} {n p s : Nat} (hp : p < n) (h : s < 2 ^ p) : haF b n (p + 1) s ||| (if hpF b n (n - p) s then 2 ^ p else 0) = haF b n p s := by
  apply Nat.eq_of_testBit_eq
  intro q
  unfold haF
  rw [Nat.testBit_or, tb_mkS, tb_mkS]
  by_cases hq : q = p
  · subst hq
    rw [decide_eq_false (show ¬ q + 1 ≤ q by omega), decide_eq_true (Nat.le_refl q), decide_eq_true h, decide_eq_true (show q < n + 1 by omega)]
    cases hpF b n (n - q) s with
    | true => rw [if_pos rfl, Nat.testBit_two_pow, decide_eq_true rfl]; rfl
    | false => rw [if_neg (by decide), Nat.zero_testBit]; rfl
  · have e : (if hpF b n (n - p) s then 2 ^ p else 0 : Nat).testBit q = false := by
      split
      · rw [Nat.testBit_two_pow, decide_eq_false (fun z => hq z.symm)]
      · rw [Nat.zero_testBit]
    rw [e, Bool.or_false]
    have e2 : decide (p + 1 ≤ q) = decide (p ≤ q) := by
      by_cases h1 : p ≤ q
      · rw [decide_eq_true h1, decide_eq_true (by omega)]
      · rw [decide_eq_false h1, decide_eq_false (by omega)]
    rw [e2]
theorem haF_stop {b : Nat → Bool} {n p s : Nat} (h : ¬ s < 2 ^ p) : haF b n (p + 1) s = haF b n 0 s := by
  apply Nat.eq_of_testBit_eq
  intro q
  unfold haF
  rw [tb_mkS, tb_mkS, decide_eq_true (Nat.zero_le q)]
  by_cases hq : p + 1 ≤ q
  · rw [decide_eq_true hq]
  · have : ¬ s < 2 ^ q := fun z => h (Nat.lt_of_lt_of_le z (Nat.pow_le_pow_right (by decide) (by omega)))
    rw [decide_eq_false this]; simp
