/-! HOW THE CLASS FINDS CUTS: the numbers that are yet to come -/
def nxO (n o : Nat) : Nat → Nat
  | 0 => n
  | r + 1 => if o.testBit (n - (r + 1)) then n - (r + 1) else nxO n o r
/-- the next open parish from q on -/
def nxP (n o q : Nat) : Nat := nxO n o (n - q)
theorem nxO_ok {n o : Nat} : ∀ r, r ≤ n → n - r ≤ nxO n o r ∧ nxO n o r ≤ n ∧ (nxO n o r < n → o.testBit (nxO n o r) = true) ∧ ∀ p, n - r ≤ p → p < nxO n o r → o.testBit p = false
  | 0, _ => ⟨by unfold nxO; omega, by unfold nxO; omega, fun h => by unfold nxO at h; omega, fun p h1 h2 => by unfold nxO at h2; omega⟩
  | r + 1, hr => by
    obtain ⟨h1, h2, h3, h4⟩ := nxO_ok (n := n) (o := o) r (by omega)
    unfold nxO
    split
    · rename_i hb; exact ⟨by omega, by omega, fun _ => hb, fun p q1 q2 => by omega⟩
    · rename_i hb
      refine ⟨by omega, h2, h3, fun p q1 q2 => ?_⟩
      by_cases hp : p = n - (r + 1)
      · rw [hp]; simpa using hb
      · exact h4 p (by omega) q2
theorem nxP_ok {n o q : Nat} (hq : q ≤ n) : q ≤ nxP n o q ∧ nxP n o q ≤ n ∧ (nxP n o q < n → o.testBit (nxP n o q) = true) ∧ ∀ p, q ≤ p → p < nxP n o q → o.testBit p = false := by
  obtain ⟨h1, h2, h3, h4⟩ := nxO_ok (n := n) (o := o) (n - q) (by omega)
  have e : n - (n - q) = q := by omega
  rw [e] at h1 h4
  exact ⟨h1, h2, h3, h4⟩
theorem nxP_op {n o q : Nat} (hq : q < n) (h : o.testBit q = true) : nxP n o q = q := by
  obtain ⟨h1, h2, h3, h4⟩ := nxP_ok (n := n) (o := o) (q := q) (by omega)
  rcases Nat.lt_or_ge q (nxP n o q) with z | z
  · rw [h4 q (Nat.le_refl _) z] at h; cases h
  · omega
theorem nxP_cl {n o q : Nat} (hq : q < n) (h : o.testBit q = false) : nxP n o q = nxP n o (q + 1) := by
  unfold nxP
  rw [show n - q = (n - (q + 1)) + 1 by omega]
  show (if o.testBit (n - ((n - (q + 1)) + 1)) then _ else _) = _
  rw [show n - ((n - (q + 1)) + 1) = q by omega, h]; rfl
theorem nxP_n {n o : Nat} : nxP n o n = n := by unfold nxP; rw [Nat.sub_self]; rfl
/-- the open parishes in their order, then n -/
def plF (n o : Nat) : Nat → Nat
  | 0 => nxP n o 0
  | j + 1 => nxP n o (plF n o j + 1)
def cP (b o : Nat) (dp : Nat → Nat) : Nat → Nat
  | 0 => 0
  | q + 1 => 2 ^ b * cP b o dp q + (if o.testBit q then dp q else 0)
def uP (o : Nat) (dp : Nat → Nat) : Nat → Nat
  | 0 => 0
  | q + 1 => if o.testBit q then max (uP o dp q) (dp q + 1) else uP o dp q
def pts (o : Nat) (dp : Nat → Nat) (q s : Nat) : Nat := mkS q (fun p => o.testBit p && decide (dp p = s))
theorem cP_cg {b o : Nat} {dp dp' : Nat → Nat} : ∀ {q : Nat}, (∀ p, p < q → dp p = dp' p) → cP b o dp q = cP b o dp' q
  | 0, _ => rfl
  | q + 1, h => by unfold cP; rw [cP_cg (fun p hp => h p (by omega)), h q (by omega)]
theorem uP_cg {o : Nat} {dp dp' : Nat → Nat} : ∀ {q : Nat}, (∀ p, p < q → dp p = dp' p) → uP o dp q = uP o dp' q
  | 0, _ => rfl
  | q + 1, h => by unfold uP; rw [uP_cg (fun p hp => h p (by omega)), h q (by omega)]
theorem pts_cg {o s : Nat} {dp dp' : Nat → Nat} {q : Nat} (h : ∀ p, p < q → dp p = dp' p) : pts o dp q s = pts o dp' q s := by
  unfold pts; exact mkS_congr (fun p hp => by rw [h p hp])
theorem pts_lt {o s q : Nat} {dp : Nat → Nat} : pts o dp q s < 2 ^ q := mkS_lt _ _
theorem cP_sk {b o : Nat} {dp : Nat → Nat} {q : Nat} : ∀ k, (∀ p, q ≤ p → p < q + k → o.testBit p = false) → cP b o dp (q + k) = cP b o dp q * (2 ^ b) ^ k ∧ uP o dp (q + k) = uP o dp q ∧ ∀ s, pts o dp (q + k) s = pts o dp q s
  | 0, _ => ⟨by simp, rfl, fun s => rfl⟩
  | k + 1, h => by
    obtain ⟨h1, h2, h3⟩ := cP_sk (b := b) (dp := dp) k (fun p a c => h p a (by omega))
    have hc := h (q + k) (by omega) (by omega)
    refine ⟨?_, ?_, fun s => ?_⟩
    · show 2 ^ b * cP b o dp (q + k) + (if o.testBit (q + k) then dp (q + k) else 0) = _
      rw [h1, hc, Nat.pow_succ]
      show 2 ^ b * (cP b o dp q * (2 ^ b) ^ k) + 0 = _
      rw [Nat.add_zero, Nat.mul_comm (2 ^ b), Nat.mul_assoc]
    · show (if o.testBit (q + k) then _ else uP o dp (q + k)) = _
      rw [hc, h2]; rfl
    · show (if (o.testBit (q + k) && decide (dp (q + k) = s)) = true then _ else pts o dp (q + k) s) = _
      rw [hc, h3]; rfl
theorem enB_sk {b n o m u : Nat} {q : Nat} : ∀ k c, q + k ≤ n → (∀ p, q ≤ p → p < q + k → o.testBit p = false) → enB b n o m (n - q) u c = enB b n o m (n - (q + k)) u (c * (2 ^ b) ^ k)
  | 0, c, _, _ => by simp
  | k + 1, c, hk, h => by
    rw [enB_sk k c (by omega) (fun p a c => h p a (by omega)), show n - (q + k) = (n - (q + (k + 1))) + 1 by omega]
    show (if o.testBit (n - ((n - (q + (k + 1))) + 1)) then _ else _) = _
    rw [show n - ((n - (q + (k + 1))) + 1) = q + k by omega, h (q + k) (by omega) (by omega), Nat.pow_succ]
    show enB b n o m (n - (q + (k + 1))) u (2 ^ b * (c * (2 ^ b) ^ k)) = _
    rw [Nat.mul_comm (2 ^ b), Nat.mul_assoc]
def enS (b n o m : Nat) (dp : Nat → Nat) (q : Nat) : List Nat := enB b n o m (n - q) (uP o dp q) (cP b o dp q)
theorem enS_nx {b n o m q : Nat} {dp : Nat → Nat} (hq : q ≤ n) : enS b n o m dp q = enS b n o m dp (nxP n o q) ∧ uP o dp (nxP n o q) = uP o dp q ∧ ∀ s, pts o dp (nxP n o q) s = pts o dp q s := by
  obtain ⟨h1, h2, h3, h4⟩ := nxP_ok (n := n) (o := o) hq
  obtain ⟨k, hk⟩ : ∃ k, nxP n o q = q + k := ⟨nxP n o q - q, by omega⟩
  rw [hk] at h2 h4 ⊢
  obtain ⟨g1, g2, g3⟩ := cP_sk (b := b) (dp := dp) k h4
  refine ⟨?_, g2, g3⟩
  unfold enS
  rw [g1, g2, enB_sk k _ h2 h4]
/-- a number whose parts are all as base asks -/
def vlB (base : Nat → Bool) (b n o m x : Nat) : Bool := decide (∀ s, s < m → base (sOB b n x o s) = true)
/-- what comes of parish p with digits from s on -/
def kdF (base : Nat → Bool) (b n o m : Nat) (dp : Nat → Nat) (p s : Nat) : List Nat := (flatR (fun s => enB b n o m (n - (p + 1)) (max (uP o dp p) (s + 1)) (2 ^ b * cP b o dp p + s)) (min (uP o dp p + 1) m - s) s).filter (vlB base b n o m)
def upF (base : Nat → Bool) (b n o m : Nat) (dp : Nat → Nat) : Nat → List Nat
  | 0 => []
  | i + 1 => kdF base b n o m dp (plF n o i) (dp (plF n o i) + 1) ++ upF base b n o m dp i
theorem kdF_cg {base : Nat → Bool} {b n o m p s : Nat} {dp dp' : Nat → Nat} (h : ∀ x, x < p → dp x = dp' x) : kdF base b n o m dp p s = kdF base b n o m dp' p s := by
  unfold kdF; rw [cP_cg h, uP_cg h]
theorem plF_lt {n o : Nat} {j : Nat} (h : plF n o j < n) : plF n o j < plF n o (j + 1) := by
  have := (nxP_ok (n := n) (o := o) (q := plF n o j + 1) (by omega)).1
  show _ < nxP n o (plF n o j + 1); omega
theorem plF_le {n o : Nat} : ∀ j, plF n o j ≤ n
  | 0 => (nxO_ok (n := n) (o := o) (n - 0) (by omega)).2.1
  | j + 1 => (nxO_ok (n := n) (o := o) (n - (plF n o j + 1)) (by omega)).2.1
theorem upF_cg {base : Nat → Bool} {b n o m : Nat} {dp dp' : Nat → Nat} : ∀ {i : Nat}, (∀ j, j < i → plF n o j < n) → (∀ x, (∃ j, j < i ∧ x ≤ plF n o j) → dp x = dp' x) → upF base b n o m dp i = upF base b n o m dp' i
  | 0, _, _ => rfl
  | i + 1, hp, h => by
    unfold upF
    rw [kdF_cg (fun x hx => h x ⟨i, by omega, by omega⟩), h (plF n o i) ⟨i, by omega, Nat.le_refl _⟩, upF_cg (fun j hj => hp j (by omega)) (fun x ⟨j, h1, h2⟩ => h x ⟨j, by omega, h2⟩)]
theorem kdF_end {base : Nat → Bool} {b n o m p s : Nat} {dp : Nat → Nat} (h : min (uP o dp p + 1) m ≤ s) : kdF base b n o m dp p s = [] := by
  unfold kdF
  rw [show min (uP o dp p + 1) m - s = 0 by omega]; rfl
/-- digit s at parish p -/
def dpU (dp : Nat → Nat) (p s : Nat) : Nat → Nat := fun x => if x = p then s else dp x
theorem dpU_lt {dp : Nat → Nat} {p s : Nat} : ∀ x, x < p → dp x = dpU dp p s x := fun x hx => by unfold dpU; rw [if_neg (by omega)]
theorem kdF_next {base : Nat → Bool} {b n o m p s : Nat} {dp : Nat → Nat} (hp : p < n) (ho : o.testBit p = true) (h : s < min (uP o dp p + 1) m) : kdF base b n o m dp p s = (enS b n o m (dpU dp p s) (nxP n o (p + 1))).filter (vlB base b n o m) ++ kdF base b n o m dp p (s + 1) := by
  rw [← (enS_nx (b := b) (m := m) (dp := dpU dp p s) (show p + 1 ≤ n by omega)).1]
  unfold kdF enS
  rw [show min (uP o dp p + 1) m - s = (min (uP o dp p + 1) m - (s + 1)) + 1 by omega]
  show (enB b n o m (n - (p + 1)) (max (uP o dp p) (s + 1)) (2 ^ b * cP b o dp p + s) ++ _).filter _ = _
  rw [List.filter_append]
  congr 2
  have e1 : uP o (dpU dp p s) (p + 1) = max (uP o dp p) (s + 1) := by
    show (if o.testBit p then max (uP o (dpU dp p s) p) (dpU dp p s p + 1) else uP o (dpU dp p s) p) = _
    rw [ho, if_pos rfl, ← uP_cg (dp := dp) (dpU_lt), show dpU dp p s p = s by unfold dpU; rw [if_pos rfl]]
  have e2 : cP b o (dpU dp p s) (p + 1) = 2 ^ b * cP b o dp p + s := by
    show 2 ^ b * cP b o (dpU dp p s) p + (if o.testBit p then dpU dp p s p else 0) = _
    rw [ho, if_pos rfl, ← cP_cg (dp := dp) (dpU_lt), show dpU dp p s p = s by unfold dpU; rw [if_pos rfl]]
  rw [e1, e2]
theorem enS_open {base : Nat → Bool} {b n o m p : Nat} {dp : Nat → Nat} (hp : p < n) (ho : o.testBit p = true) : (enS b n o m dp p).filter (vlB base b n o m) = kdF base b n o m dp p 0 := by
  unfold enS kdF
  rw [show n - p = (n - (p + 1)) + 1 by omega]
  show ((if o.testBit (n - ((n - (p + 1)) + 1)) then _ else _) : List Nat).filter _ = _
  rw [show n - ((n - (p + 1)) + 1) = p by omega, ho]
  rfl
theorem dg_cP {b o : Nat} {dp : Nat → Nat} (hd : ∀ p, o.testBit p = true → dp p < 2 ^ b) : ∀ q p, p < q → dgB b q (cP b o dp q) p = if o.testBit p then dp p else 0
  | 0, p, h => by omega
  | q + 1, p, h => by
    have he : (if o.testBit q then dp q else 0) < 2 ^ b := by
      split
      · rename_i ho; exact hd q ho
      · exact Nat.two_pow_pos b
    unfold cP
    by_cases hp : p = q
    · subst hp; rw [dgB_last he]
    · rw [dgB_init he (by omega)]; exact dg_cP hd q p (by omega)
theorem dg_div {b n q x c p : Nat} (hq : q ≤ n) (h : x / (2 ^ b) ^ (n - q) = c) (hp : p < q) : dgB b n x p = dgB b q c p := by
  unfold dgB
  congr 1
  rw [← h, Nat.shiftRight_eq_div_pow, Nat.shiftRight_eq_div_pow, Nat.div_div_eq_div_mul, ← Nat.pow_mul, ← Nat.pow_add]
  congr 2
  rw [← Nat.mul_add]
  congr 1
  omega
theorem hpF_ext {base : Nat → Bool} {n t : Nat} (ht : t < 2 ^ n) (hb : base t = true) : ∀ r s, r ≤ n → s < 2 ^ (n - r) → (∀ p, p < n - r → s.testBit p = t.testBit p) → hpF base n r s = true
  | 0, s, _, hs, h => by
    have : s = t := by
      apply Nat.eq_of_testBit_eq
      intro q
      rcases Nat.lt_or_ge q n with z | z
      · exact h q (by omega)
      · rw [tbF (n := n) (by simpa using hs) z, tbF ht z]
    rw [this]; exact hb
  | r + 1, s, hr, hs, h => by
    have hp2 : 2 ^ (n - r) = 2 ^ (n - (r + 1)) * 2 := by rw [← Nat.pow_succ]; congr 1; omega
    have hpp := Nat.two_pow_pos (n - (r + 1))
    show (hpF base n r s || hpF base n r (s ||| 2 ^ (n - (r + 1)))) = true
    cases hc : t.testBit (n - (r + 1)) with
    | false =>
      rw [hpF_ext ht hb r s (by omega) (by omega) (fun p hp => ?_)]; rfl
      by_cases hq : p = n - (r + 1)
      · subst hq; rw [hc]; exact tbF hs (Nat.le_refl _)
      · exact h p (by omega)
    | true =>
      rw [hpF_ext ht hb r (s ||| 2 ^ (n - (r + 1))) (by omega) (by rw [hp2]; exact Nat.lt_of_lt_of_eq (Nat.or_lt_two_pow (n := n - (r + 1) + 1) (by rw [Nat.pow_succ]; omega) (by rw [Nat.pow_succ]; omega)) (Nat.pow_succ 2 _)) (fun p hp => ?_), Bool.or_true]
      rw [tb_ins]
      by_cases hq : p = n - (r + 1)
      · subst hq; rw [hc, decide_eq_true rfl, Bool.or_true]
      · rw [decide_eq_false hq, Bool.or_false]; exact h p (by omega)
/-- no hope: a part that nothing makes what base asks -/
theorem no_part {base : Nat → Bool} {b n o m q k : Nat} {dp : Nat → Nat} (hm : m ≤ 2 ^ b) (hq : q ≤ n) (hd : ∀ p, o.testBit p = true → dp p < 2 ^ b) (hu : uP o dp q ≤ m) (hk : k < m) (h : hpF base n (n - q) (pts o dp q k) = false) : (enS b n o m dp q).filter (vlB base b n o m) = [] := by
  rw [List.filter_eq_nil_iff]
  intro x hx hv
  have hv := of_decide_eq_true hv
  have hdv := enB_div hm (n - q) _ _ x hu hx
  have := hpF_ext (base := base) (n := n) (t := sOB b n x o k) (sOB_lt _ _ _ _ _) (hv k hk) (n - q) (pts o dp q k) (by omega) (by rw [show n - (n - q) = q by omega]; exact pts_lt) (fun p hp => ?_)
  · rw [this] at h; cases h
  · have hpq : p < q := by omega
    unfold pts
    rw [tb_mkS, tb_sOB, decide_eq_true hpq, decide_eq_true (show p < n by omega), Bool.true_and, Bool.true_and, dg_div hq hdv hpq, dg_cP hd q p hpq]
    cases o.testBit p <;> simp
theorem plF_op {n o : Nat} : ∀ {i : Nat}, plF n o i < n → o.testBit (plF n o i) = true
  | 0, hp => (nxP_ok (n := n) (o := o) (Nat.zero_le n)).2.2.1 hp
  | i + 1, hp => by
    rcases Nat.lt_or_ge (plF n o i) n with y | y
    · exact (nxP_ok (n := n) (o := o) (q := plF n o i + 1) (by omega)).2.2.1 hp
    · have : plF n o (i + 1) = n := by
        show nxO n o (n - (plF n o i + 1)) = n
        rw [show n - (plF n o i + 1) = 0 by omega]; rfl
      omega
/-- there are N open places -/
def plN (n o N : Nat) : Prop := (∀ j, j < N → plF n o j < n) ∧ plF n o N = n
/-- no hope: too few are left -/
theorem no_left {base : Nat → Bool} {b n o m N : Nat} (hN : plN n o N) : ∀ r i, i + r = N → ∀ u c, u + r < m → enB b n o m (n - plF n o i) u c = []
  | 0, i, hi, u, c, h => by
    obtain rfl : i = N := by omega
    rw [hN.2, Nat.sub_self]
    unfold enB
    rw [if_neg (by omega)]
  | r + 1, i, hi, u, c, h => by
    have hp := hN.1 i (by omega)
    have ho := plF_op hp
    rw [show n - plF n o i = (n - (plF n o i + 1)) + 1 by omega]
    unfold enB
    rw [show n - ((n - (plF n o i + 1)) + 1) = plF n o i by omega, if_pos ho]
    have key : ∀ k s, s + k ≤ u + 1 → flatR (fun s => enB b n o m (n - (plF n o i + 1)) (max u (s + 1)) (2 ^ b * c + s)) k s = [] := by
      intro k
      induction k with
      | zero => intro s _; rfl
      | succ k ih =>
        intro s hs
        show enB b n o m (n - (plF n o i + 1)) (max u (s + 1)) (2 ^ b * c + s) ++ _ = []
        obtain ⟨h1, h2, h3, h4⟩ := nxP_ok (n := n) (o := o) (q := plF n o i + 1) (by omega)
        obtain ⟨k2, hk2⟩ : ∃ k2, nxP n o (plF n o i + 1) = (plF n o i + 1) + k2 := ⟨nxP n o (plF n o i + 1) - (plF n o i + 1), by omega⟩
        rw [ih (s + 1) (by omega), List.append_nil, enB_sk k2 _ (by omega) (fun p a c => h4 p a (by omega)), ← hk2]
        exact no_left (base := base) hN r (i + 1) (by omega) _ _ (by have : max u (s + 1) ≤ u + 1 := Nat.max_le.mpr ⟨by omega, by omega⟩; omega)
    exact key _ 0 (by have : min (u + 1) m ≤ u + 1 := Nat.min_le_left _ _; omega)
/-- the end: a cut is found -/
theorem yes_end {base : Nat → Bool} {b n o m : Nat} {dp : Nat → Nat} (hd : ∀ p, o.testBit p = true → dp p < 2 ^ b) (hu : uP o dp n = m) (h : ∀ k, k < m → base (pts o dp n k) = true) : (enS b n o m dp n).filter (vlB base b n o m) = [cP b o dp n] ∧ ∀ k, sOB b n (cP b o dp n) o k = pts o dp n k := by
  have e : ∀ k, sOB b n (cP b o dp n) o k = pts o dp n k := fun k => by
    unfold sOB pts
    refine mkS_congr (fun p hp => ?_)
    rw [dg_cP hd n p hp]
    cases o.testBit p <;> simp
  refine ⟨?_, e⟩
  unfold enS
  rw [Nat.sub_self]
  unfold enB
  rw [if_pos hu, List.filter_cons, if_pos]
  · rfl
  · exact decide_eq_true (fun s hs => by rw [e]; exact h s hs)
/-- the way through the whole tree takes no more turns than this -/
def itC (m : Nat) : Nat → Nat → Nat
  | 0, _ => 0
  | r + 1, u => 1 + u * (1 + itC m r u) + (if u < m then 1 + itC m r (u + 1) else 0)
theorem itC_dec : ∀ m, m < 9 → ∀ r, r < 10 → itC m r 0 < 200000 := by decide +kernel
