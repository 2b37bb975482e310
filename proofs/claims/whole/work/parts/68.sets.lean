/-! SETS: what is told on, and what hangs together -/
def sub (a b : Nat) : Prop := ∀ q, a.testBit q = true → b.testBit q = true
theorem sub_rfl {a : Nat} : sub a a := fun _ h => h
theorem sub_tr {a b c : Nat} (h1 : sub a b) (h2 : sub b c) : sub a c := fun q h => h2 q (h1 q h)
theorem sub_eq {a b : Nat} (h1 : sub a b) (h2 : sub b a) : a = b := by
  apply Nat.eq_of_testBit_eq
  intro q
  cases ha : a.testBit q with
  | true => exact (h1 q ha).symm
  | false =>
    cases hb : b.testBit q with
    | true => rw [h2 q hb] at ha; cases ha
    | false => rfl
theorem tbF {a n q : Nat} (h : a < 2 ^ n) (hq : n ≤ q) : a.testBit q = false := Nat.testBit_lt_two_pow (Nat.lt_of_lt_of_le h (Nat.pow_le_pow_right (by decide) hq))
theorem tbL {a n q : Nat} (h : a < 2 ^ n) (hq : a.testBit q = true) : q < n := by
  rcases Nat.lt_or_ge q n with z | z
  · exact z
  · rw [tbF h z] at hq; cases hq
theorem sub_0 {a : Nat} : sub 0 a := fun q h => by rw [Nat.zero_testBit] at h; cases h
theorem ne0_ex {a : Nat} (h : a ≠ 0) : ∃ q, a.testBit q = true := by
  refine Classical.byContradiction (fun hno => h ?_)
  apply Nat.eq_of_testBit_eq
  intro q
  rw [Nat.zero_testBit]
  cases hb : a.testBit q with
  | false => rfl
  | true => exact absurd ⟨q, hb⟩ hno
def cnt (n a : Nat) : Nat := smF n (fun p => if a.testBit p then 1 else 0)
theorem cnt_succ {n a : Nat} : cnt (n + 1) a = cnt n a + (if a.testBit n then 1 else 0) := rfl
theorem cnt_le (n a : Nat) : cnt n a ≤ n := by
  have := smF_le (f := fun p => if a.testBit p then 1 else 0) (b := 1) (fun p => by split <;> omega) n
  unfold cnt; omega
theorem cnt_mono {a b : Nat} (h : sub a b) : ∀ n, cnt n a ≤ cnt n b
  | 0 => Nat.le_refl _
  | n + 1 => by
    have := cnt_mono h n
    rw [cnt_succ, cnt_succ]
    by_cases ha : a.testBit n = true
    · rw [if_pos ha, if_pos (h n ha)]; omega
    · rw [if_neg ha]; omega
theorem cnt_lt {a b : Nat} (h : sub a b) {q : Nat} (h1 : b.testBit q = true) (h2 : a.testBit q = false) : ∀ n, q < n → cnt n a < cnt n b
  | 0, hq => by omega
  | n + 1, hq => by
    rw [cnt_succ, cnt_succ]
    by_cases hqn : q = n
    · subst hqn
      have := cnt_mono h q
      rw [h1, h2]; simp; omega
    · have := cnt_lt h h1 h2 n (by omega)
      by_cases ha : a.testBit n = true
      · rw [if_pos ha, if_pos (h n ha)]; omega
      · rw [if_neg ha]; omega
theorem cnt_eq {a b n : Nat} (h : sub a b) (hb : b < 2 ^ n) (he : cnt n b ≤ cnt n a) : a = b := by
  refine sub_eq h (fun q hq => ?_)
  cases ha : a.testBit q with
  | true => rfl
  | false => have := cnt_lt h hq ha n (tbL hb hq); omega
theorem cnt_0 (n : Nat) : cnt n 0 = 0 := by
  have : ∀ n, cnt n 0 = 0 := by
    intro n
    induction n with
    | zero => rfl
    | succ n ih => rw [cnt_succ, ih, Nat.zero_testBit]; rfl
  exact this n
theorem cnt_pos {a n : Nat} (ha : a < 2 ^ n) (h : a ≠ 0) : 1 ≤ cnt n a := by
  obtain ⟨q, hq⟩ := ne0_ex h
  have := cnt_lt (a := 0) (b := a) sub_0 hq (Nat.zero_testBit q) n (tbL ha hq)
  omega
theorem tb_ins {a p q : Nat} : (a ||| 2 ^ p).testBit q = (a.testBit q || decide (q = p)) := by
  rw [Nat.testBit_or, Nat.testBit_two_pow]
  by_cases h : p = q
  · rw [decide_eq_true h, decide_eq_true h.symm]
  · rw [decide_eq_false h, decide_eq_false (fun z => h z.symm)]
theorem cnt_ins {a p : Nat} (ha : a.testBit p = false) : ∀ n, cnt n (a ||| 2 ^ p) = cnt n a + (if p < n then 1 else 0)
  | 0 => rfl
  | n + 1 => by
    rw [cnt_succ, cnt_succ, cnt_ins ha n, tb_ins]
    by_cases hp : n = p
    · subst hp
      rw [ha, if_neg (Nat.lt_irrefl _)]; simp
    · rw [decide_eq_false hp, Bool.or_false]
      by_cases hlt : p < n
      · rw [if_pos hlt, if_pos (show p < n + 1 by omega)]; omega
      · rw [if_neg hlt, if_neg (show ¬ p < n + 1 by omega)]; omega
/-- a set that T does not leave -/
def cl (T : Nat → Nat) (n a : Nat) : Prop := ∀ p, p < n → a.testBit p = true → sub (T p) a
theorem oneS_ge {T : Nat → Nat} {a p : Nat} : sub a (oneS T a p) := fun q h => by
  unfold oneS; split
  · rw [Nat.testBit_or, h]; rfl
  · exact h
theorem oneS_le {T : Nat → Nat} {n a p c : Nat} (hp : p < n) (hc : cl T n c) (h : sub a c) : sub (oneS T a p) c := fun q hq => by
  unfold oneS at hq
  split at hq
  · rename_i hb
    rw [Nat.testBit_or] at hq
    cases ha : a.testBit q with
    | true => exact h q ha
    | false => rw [ha] at hq; exact hc p hp (h p hb) q hq
  · exact h q hq
theorem runR_ge {T : Nat → Nat} {n : Nat} : ∀ r a, sub a (runR T n r a)
  | 0, _ => sub_rfl
  | r + 1, _ => sub_tr oneS_ge (runR_ge r _)
theorem runR_le {T : Nat → Nat} {n c : Nat} (hc : cl T n c) : ∀ r a, r ≤ n → sub a c → sub (runR T n r a) c
  | 0, _, _, h => h
  | r + 1, _, hr, h => runR_le hc r _ (by omega) (oneS_le (by omega) hc h)
theorem runR_fix {T : Nat → Nat} {n : Nat} : ∀ r a, r ≤ n → runR T n r a = a → ∀ p, n - r ≤ p → p < n → oneS T a p = a
  | 0, _, _, _, p, h1, h2 => by omega
  | r + 1, a, hr, h, p, h1, h2 => by
    have e : oneS T a (n - (r + 1)) = a := by
      refine sub_eq ?_ oneS_ge
      have := runR_ge (T := T) (n := n) r (oneS T a (n - (r + 1)))
      have h' : runR T n r (oneS T a (n - (r + 1))) = a := h
      rw [h'] at this; exact this
    have h' : runR T n r (oneS T a (n - (r + 1))) = a := h
    rw [e] at h'
    by_cases hq : p = n - (r + 1)
    · rw [hq]; exact e
    · exact runR_fix r a (by omega) h' p (by omega) h2
theorem runR_cl {T : Nat → Nat} {n a : Nat} (h : runR T n n a = a) : cl T n a := fun p hp hb q hq => by
  have e := runR_fix n a (Nat.le_refl _) h p (by omega) hp
  unfold oneS at e
  rw [if_pos hb] at e
  rw [← e, Nat.testBit_or, hq, Bool.or_true]
theorem cloR_ge {T : Nat → Nat} {n : Nat} : ∀ k a, sub a (cloR T n k a)
  | 0, _ => sub_rfl
  | k + 1, _ => sub_tr (runR_ge n _) (cloR_ge k _)
theorem cloR_le {T : Nat → Nat} {n c : Nat} (hc : cl T n c) : ∀ k a, sub a c → sub (cloR T n k a) c
  | 0, _, h => h
  | k + 1, _, h => cloR_le hc k _ (runR_le hc n _ (Nat.le_refl _) h)
theorem cloR_grow {T : Nat → Nat} {n : Nat} (hT : ∀ q, T q < 2 ^ n) : ∀ k a, a < 2 ^ n → cl T n (cloR T n k a) ∨ cnt n a + k ≤ cnt n (cloR T n k a)
  | 0, a, _ => Or.inr (Nat.le_refl _)
  | k + 1, a, ha => by
    by_cases h : runR T n n a = a
    · left
      have hc := runR_cl h
      have : cloR T n (k + 1) a = a := sub_eq (cloR_le hc _ _ sub_rfl) (cloR_ge _ _)
      rw [this]; exact hc
    · have hr := runR_lt hT n a ha
      rcases cloR_grow hT k (runR T n n a) hr with g | g
      · exact Or.inl g
      · right
        have : cnt n a < cnt n (runR T n n a) := by
          rcases Nat.lt_or_ge (cnt n a) (cnt n (runR T n n a)) with z | z
          · exact z
          · exact absurd (cnt_eq (runR_ge n a) hr z).symm h
        show _ ≤ cnt n (cloR T n k (runR T n n a))
        omega
theorem clo_ge {T : Nat → Nat} {n a : Nat} : sub a (clo T n a) := cloR_ge 9 a
theorem clo_le {T : Nat → Nat} {n a c : Nat} (hc : cl T n c) (h : sub a c) : sub (clo T n a) c := cloR_le hc 9 a h
theorem clo_cl {T : Nat → Nat} {n a : Nat} (hn : n ≤ 9) (hT : ∀ q, T q < 2 ^ n) (ha : a < 2 ^ n) : cl T n (clo T n a) := by
  rcases cloR_grow hT 9 a ha with h | h
  · exact h
  · have h1 := cnt_le n (cloR T n 9 a)
    have h0 : a = 0 := by
      refine Classical.byContradiction (fun hne => ?_)
      have := cnt_pos ha hne
      omega
    have hc0 : cl T n 0 := fun p _ hb => by rw [Nat.zero_testBit] at hb; cases hb
    have : clo T n a = 0 := by rw [h0]; exact sub_eq (clo_le hc0 sub_rfl) clo_ge
    rw [this]; exact hc0
/-- what hangs together: no part of it, but itself, goes to no one beside it -/
def Conn (B : Nat → Nat) (set : Nat) : Prop := ∀ c, c ≠ 0 → sub c set → (∀ p, c.testBit p = true → ∀ q, (B p).testBit q = true → set.testBit q = true → c.testBit q = true) → c = set
theorem odd_of : ∀ s : Nat, s ≠ 0 → ∃ k m, s = 2 ^ k * (2 * m + 1) := by
  intro s
  induction s using Nat.strongRecOn with
  | ind s ih =>
    intro h
    rcases Nat.mod_two_eq_zero_or_one s with z | z
    · obtain ⟨k, m, e⟩ := ih (s / 2) (by omega) (by omega)
      refine ⟨k + 1, m, ?_⟩
      rw [Nat.pow_succ, Nat.mul_comm (2 ^ k) 2, Nat.mul_assoc, ← e]; omega
    · exact ⟨0, s / 2, by omega⟩
theorem tb_odd {k m : Nat} : (2 ^ k * (2 * m + 1)).testBit k = true := by
  rw [Nat.testBit_eq_decide_div_mod_eq, Nat.mul_div_cancel_left _ (Nat.two_pow_pos k)]
  apply decide_eq_true
  omega
theorem lwN_bit {s : Nat} (h0 : s ≠ 0) (hs : s < 2 ^ 31) : ∃ k, lwN s = 2 ^ k ∧ s.testBit k = true := by
  obtain ⟨k, m, e⟩ := odd_of s h0
  have hk : k < 31 := by
    rcases Nat.lt_or_ge k 31 with z | z
    · exact z
    · have h1 : 2 ^ 31 ≤ 2 ^ k := Nat.pow_le_pow_right (by decide) z
      have h2 : 2 ^ k * 1 ≤ 2 ^ k * (2 * m + 1) := Nat.mul_le_mul_left _ (by omega)
      omega
  have e32 : (2 : Nat) ^ 32 = 2 ^ k * (2 * 2 ^ (31 - k)) := by
    have h3 : (2 : Nat) * 2 ^ (31 - k) = 2 ^ (31 - k + 1) := by rw [Nat.pow_succ, Nat.mul_comm]
    rw [h3, ← Nat.pow_add]
    congr 1
    omega
  have hm : m < 2 ^ (31 - k) := by
    refine Classical.byContradiction (fun hn => ?_)
    have h4 : 2 ^ (31 - k) ≤ m := by omega
    have h5 : 2 ^ k * (2 * 2 ^ (31 - k)) ≤ 2 ^ k * (2 * m + 1) := Nat.mul_le_mul_left _ (by omega)
    omega
  have e2 : 2 ^ 32 - s = 2 ^ k * (2 * (2 ^ (31 - k) - (m + 1)) + 1) := by
    rw [e, e32, ← Nat.mul_sub]
    congr 1
    omega
  refine ⟨k, ?_, by rw [e, tb_odd]⟩
  apply Nat.eq_of_testBit_eq
  intro j
  unfold lwN
  rw [Nat.testBit_and, e2, Nat.testBit_two_pow]
  rw [e, Nat.testBit_two_pow_mul, Nat.testBit_two_pow_mul]
  by_cases h1 : k ≤ j
  · by_cases h2 : k = j
    · subst h2
      rw [Nat.sub_self, decide_eq_true (Nat.le_refl k), decide_eq_true rfl]
      simp [Nat.testBit_zero]
    · rw [decide_eq_false h2]
      obtain ⟨i, hi⟩ : ∃ i, j - k = i + 1 := ⟨j - k - 1, by omega⟩
      rw [hi, Nat.testBit_succ, Nat.testBit_succ, show (2 * m + 1) / 2 = m by omega, show (2 * (2 ^ (31 - k) - (m + 1)) + 1) / 2 = 2 ^ (31 - k) - (m + 1) by omega, Nat.testBit_two_pow_sub_succ hm]
      cases m.testBit i <;> simp
  · rw [decide_eq_false (show ¬ j ≥ k from h1), decide_eq_false (show ¬ k = j by omega)]; rfl
theorem Conn_iff {B : Nat → Nat} {n set : Nat} (hn : n ≤ 9) (hB : ∀ q, B q < 2 ^ n) (hsy : ∀ p q, (B p).testBit q = (B q).testBit p) (h0 : set ≠ 0) (hs : set < 2 ^ n) : clo (fun p => B p &&& set) n (lwN set) = set ↔ Conn B set := by
  have h512 := p9 hn
  obtain ⟨k, hk1, hk2⟩ := lwN_bit h0 (show set < 2 ^ 31 by omega)
  have lb : ∀ q, (lwN set).testBit q = true ↔ q = k := fun q => by
    rw [hk1, Nat.testBit_two_pow]
    constructor
    · intro h; exact (of_decide_eq_true h).symm
    · intro h; exact decide_eq_true h.symm
  have l2 : sub (lwN set) set := fun q hq => by rw [(lb q).mp hq]; exact hk2
  have hT : ∀ q, (fun p => B p &&& set) q < 2 ^ n := fun q => Nat.lt_of_le_of_lt Nat.and_le_left (hB q)
  have hself : cl (fun p => B p &&& set) n set := fun p _ _ q hq => by
    have hq : (B p &&& set).testBit q = true := hq
    rw [Nat.testBit_and] at hq
    cases hb : set.testBit q with
    | true => rfl
    | false => rw [hb, Bool.and_false] at hq; cases hq
  constructor
  · intro he c hc hcs hcl
    refine sub_eq hcs ?_
    by_cases hl : sub (lwN set) c
    · have : sub (clo (fun p => B p &&& set) n (lwN set)) c := clo_le (fun p _ hb q hq => by
        have hq : (B p &&& set).testBit q = true := hq
        rw [Nat.testBit_and] at hq
        have h1 : (B p).testBit q = true := by cases h : (B p).testBit q <;> simp_all
        have h2 : set.testBit q = true := by cases h : set.testBit q <;> simp_all
        exact hcl p hb q h1 h2) hl
      rw [he] at this; exact this
    · -- the rest of the set is shut too
      exfalso
      have : sub (clo (fun p => B p &&& set) n (lwN set)) (set ^^^ c) := by
        have hx : ∀ q, (set ^^^ c).testBit q = true ↔ set.testBit q = true ∧ c.testBit q = false := fun q => by
          rw [Nat.testBit_xor]
          have := hcs q
          cases h1 : set.testBit q <;> cases h2 : c.testBit q <;> simp_all
        refine clo_le (fun p _ hb q hq => ?_) (fun q hq => ?_)
        · have hq : (B p &&& set).testBit q = true := hq
          rw [Nat.testBit_and] at hq
          have h1 : (B p).testBit q = true := by cases h : (B p).testBit q <;> simp_all
          have h2 : set.testBit q = true := by cases h : set.testBit q <;> simp_all
          obtain ⟨g1, g2⟩ := (hx p).mp hb
          refine (hx q).mpr ⟨h2, ?_⟩
          cases h3 : c.testBit q with
          | false => rfl
          | true =>
            have := hcl q h3 p (by rw [hsy]; exact h1) g1
            rw [g2] at this; cases this
        · refine (hx q).mpr ⟨l2 q hq, ?_⟩
          cases h3 : c.testBit q with
          | false => rfl
          | true =>
            -- the lowest has one alone
            exact absurd (fun q' hq' => by
              have : q' = q := by rw [(lb q').mp hq', (lb q).mp hq]
              rw [this]; exact h3) hl
      rw [he] at this
      obtain ⟨q, hq⟩ := ne0_ex hc
      have h1 := this q (hcs q hq)
      rw [Nat.testBit_xor, hcs q hq, hq] at h1
      cases h1
  · intro hC
    have hlt := lwN_lt hs
    have hc := clo_cl hn hT hlt
    refine hC _ (fun z => ?_) (clo_le hself l2) (fun p hp q h1 h2 => ?_)
    · have := clo_ge (T := fun p => B p &&& set) (n := n) k ((lb k).mpr rfl)
      rw [z, Nat.zero_testBit] at this; cases this
    · have hpn := tbL (clo_lt hT hlt) hp
      refine hc p hpn hp q ?_
      show (B p &&& set).testBit q = true
      rw [Nat.testBit_and, h1, h2]; rfl
