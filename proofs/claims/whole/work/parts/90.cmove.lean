/-! A PARISH GOES TO ANOTHER SEAT -/
theorem smF_one2 {x : Nat} {u : Nat → Nat} : ∀ m, smF m (fun j => if x = j then u j else 0) = if x < m then u x else 0
  | 0 => rfl
  | m + 1 => by
    show smF m (fun j => if x = j then u j else 0) + (if x = m then u m else 0) = _
    rw [smF_one2 m]
    by_cases h : x = m
    · subst h; rw [if_neg (Nat.lt_irrefl _), if_pos rfl, if_pos (Nat.lt_succ_self _), Nat.zero_add]
    · rw [if_neg h, Nat.add_zero]
      by_cases h2 : x < m
      · rw [if_pos h2, if_pos (by omega)]
      · rw [if_neg h2, if_neg (by omega)]
theorem smF_PM {f g w : Nat → Nat} {m : Nat} (h : PM f g m) : smF m (fun s => w (g s)) = smF m (fun s => w (f s)) := by
  obtain ⟨σ, τ, h1, h2⟩ := h
  have e1 : smF m (fun s => w (g s)) = smF m (fun s => smF m (fun j => if σ s = j then w (f j) else 0)) := smF_lt (fun s hs => by
    obtain ⟨a, b, c⟩ := h1 s hs
    have e := smF_one2 (x := σ s) (u := fun j => w (f j)) m
    rw [if_pos a] at e
    rw [e, b])
  rw [e1, smF_swap]
  refine smF_lt (fun j hj => ?_)
  obtain ⟨a, b⟩ := h2 j hj
  have e := smF_one2 (x := τ j) (u := fun _ => w (f j)) m
  rw [if_pos a] at e
  refine Eq.trans (smF_lt (fun s hs => ?_)) e
  obtain ⟨a1, b1, c1⟩ := h1 s hs
  by_cases hq : σ s = j
  · rw [if_pos hq, if_pos (by rw [← hq]; exact c1)]
  · rw [if_neg hq, if_neg (fun z => hq (by rw [← z]; exact b))]
theorem smF_up {u : Nat → Nat} {a x : Nat} : ∀ m, smF m (fun s => if s = a then x else u s) + (if a < m then u a else 0) = smF m u + (if a < m then x else 0)
  | 0 => rfl
  | m + 1 => by
    have ih := smF_up (u := u) (a := a) (x := x) m
    show smF m (fun s => if s = a then x else u s) + (if m = a then x else u m) + _ = smF m u + u m + _
    by_cases h : m = a
    · subst h
      rw [if_neg (Nat.lt_irrefl _), if_neg (Nat.lt_irrefl _)] at ih
      rw [if_pos rfl, if_pos (Nat.lt_succ_self _), if_pos (Nat.lt_succ_self _)]
      omega
    · rw [if_neg h]
      by_cases h2 : a < m
      · rw [if_pos h2, if_pos h2] at ih
        rw [if_pos (by omega), if_pos (by omega)]; omega
      · rw [if_neg h2, if_neg h2] at ih
        rw [if_neg (by omega), if_neg (by omega)]; omega
theorem cnO_miss {f : Nat → Option Nat} {m i : Nat} (hi : i < m) (h : ∀ k y, f k = some y → k < m ∧ k ≠ i) : ∀ n, cnO f n + (if i < n then 1 else 0) ≤ min n m
  | 0 => by simp [cnO]
  | n + 1 => by
    have ih := cnO_miss hi h n
    unfold cnO
    cases hc : f n with
    | none =>
      simp only [Option.isSome_none, Bool.false_eq_true, if_false, Nat.add_zero]
      by_cases h1 : i < n
      · rw [if_pos h1] at ih; rw [if_pos (by omega)]; omega
      · rw [if_neg h1] at ih
        by_cases h2 : i < n + 1
        · rw [if_pos h2]; omega
        · rw [if_neg h2]; omega
    | some y =>
      obtain ⟨a, b⟩ := h n y hc
      simp only [Option.isSome_some, if_true]
      by_cases h1 : i < n
      · rw [if_pos h1] at ih; rw [if_pos (by omega)]; omega
      · rw [if_neg h1] at ih; rw [if_neg (by omega)]; omega
/-- naming anew, when each name is used -/
theorem rn_PM {L : LandT} {m : Nat} {f D : Nat → Nat} (hm : m ≤ 4) (hf : ∀ i, i < m → f i < 2 ^ L.1 ∧ f i ≠ 0) (hD : ∀ p, D p < 4) (hDm : ∀ q, q < L.1 → D q < m) (hfD : ∀ i, i < m → ∀ q, q < L.1 → (f i).testBit q = decide (D q = i)) :
    nuF 2 L.1 (rnF D L.1).2.2 (whL L) L.1 = some m ∧ PM f (fun s => sOB 2 L.1 (rnF D L.1).2.2 (whL L) s) m := by
  have hwh : ∀ q, q < L.1 → (whL L).testBit q = true := fun q hq => by rw [tb_wh, decide_eq_true hq]
  obtain ⟨r1, r2, r3, r4⟩ := rn_all hD (o := whL L) L.1 hwh
  obtain ⟨o1, o2, o3, o4⟩ := rnF_ok hD L.1
  have hex : ∀ i, i < m → ∃ q, q < L.1 ∧ D q = i := fun i hi => by
    refine Classical.byContradiction (fun hno => (hf i hi).2 (eq0_of (hf i hi).1 (fun q hq => ?_)))
    rw [hfD i hi q hq]
    exact decide_eq_false (fun z => hno ⟨q, hq, z⟩)
  have hcnt : (rnF D L.1).2.1 = m := by
    rw [o1, cnO_eq (S := m) 4 (fun i hi => ?_)]
    · omega
    · constructor
      · intro h
        obtain ⟨y, hy⟩ := Option.isSome_iff_exists.mp h
        obtain ⟨q, q1, q2⟩ := r3 i y hy
        rw [← q2]; exact hDm q q1
      · intro h
        obtain ⟨q, q1, q2⟩ := hex i h
        have := r2 q q1
        rw [q2] at this
        rw [this]; rfl
  rw [hcnt] at r1
  refine ⟨r1, ?_⟩
  have hsq : ∀ s, s < m → ∃ q, q < L.1 ∧ dgB 2 L.1 (rnF D L.1).2.2 q = s := fun s hs => by
    obtain ⟨q, a, -, b⟩ := nuF_has r1 s hs
    exact ⟨q, a, b⟩
  have eqs : ∀ q, q < L.1 → sOB 2 L.1 (rnF D L.1).2.2 (whL L) (dgB 2 L.1 (rnF D L.1).2.2 q) = f (D q) := fun q hq => by
    apply Nat.eq_of_testBit_eq
    intro j
    rw [tb_sOB, tb_wh]
    by_cases hj : j < L.1
    · rw [decide_eq_true hj, Bool.true_and, Bool.true_and, hfD _ (hDm q hq) j hj]
      by_cases he : D j = D q
      · rw [decide_eq_true he]
        have a1 := r2 j hj
        rw [he, r2 q hq] at a1
        exact decide_eq_true (Option.some.inj a1).symm
      · rw [decide_eq_false he]
        refine decide_eq_false (fun z => he ?_)
        exact r4 _ _ _ (r2 j hj) (by rw [r2 q hq, z])
    · rw [decide_eq_false hj, Bool.false_and]
      exact (tbF (hf _ (hDm q hq)).1 (by omega)).symm
  refine ⟨fun s => if h : s < m then D (Classical.choose (hsq s h)) else 0, fun i => ((rnF D L.1).1 i).getD 0, fun s hs => ?_, fun i hi => ?_⟩
  · dsimp only
    rw [dif_pos hs]
    obtain ⟨c1, c2⟩ := Classical.choose_spec (hsq s hs)
    refine ⟨hDm _ c1, ?_, ?_⟩
    · rw [← eqs _ c1, c2]
    · rw [r2 _ c1, c2]; rfl
  · obtain ⟨q, q1, q2⟩ := hex i hi
    have a := r2 q q1
    rw [q2] at a
    have hy := o2 _ _ a
    rw [hcnt] at hy
    dsimp only
    rw [a]
    refine ⟨hy, ?_⟩
    rw [Option.getD_some, dif_pos hy]
    obtain ⟨c1, c2⟩ := Classical.choose_spec (hsq _ hy)
    have a2 := r2 _ c1
    rw [c2] at a2
    exact r4 _ _ _ a2 a
/-- ... and when one is not -/
theorem rn_few {L : LandT} {m i : Nat} {D : Nat → Nat} (hi : i < m) (hm : m ≤ 4) (hD : ∀ p, D p < 4) (hDm : ∀ q, q < L.1 → D q < m ∧ D q ≠ i) : nuF 2 L.1 (rnF D L.1).2.2 (whL L) L.1 ≠ some m := by
  obtain ⟨r1, r2, r3, r4⟩ := rn_all hD (o := whL L) L.1 (fun q hq => by rw [tb_wh, decide_eq_true hq])
  obtain ⟨o1, o2, o3, o4⟩ := rnF_ok hD L.1
  rw [r1]
  intro z
  have z := Option.some.inj z
  have := cnO_miss hi (f := (rnF D L.1).1) (fun k y hk => by
    obtain ⟨q, q1, q2⟩ := r3 k y hk
    rw [← q2]; exact hDm q q1) 4
  rw [if_pos (by omega)] at this
  omega
abbrev seL (L : LandT) (c s : Nat) : Nat := sOB 2 L.1 c (whL L) s
def mvF (L : LandT) (c p t i : Nat) : Nat := if i = dgB 2 L.1 c p then seL L c i ^^^ 2 ^ p else if i = t then seL L c i ||| 2 ^ p else seL L c i
theorem seL_tb {L : LandT} {c s q : Nat} (hq : q < L.1) : (seL L c s).testBit q = decide (dgB 2 L.1 c q = s) := by
  show (sOB 2 L.1 c (whL L) s).testBit q = _
  rw [tb_sOB, tb_wh, decide_eq_true hq, Bool.true_and, Bool.true_and]
theorem xor_lt {a p n : Nat} (ha : a < 2 ^ n) (hp : p < n) : a ^^^ 2 ^ p < 2 ^ n := Nat.xor_lt_two_pow ha (Nat.pow_lt_pow_right (by decide) hp)
theorem or2_lt {a p n : Nat} (ha : a < 2 ^ n) (hp : p < n) : a ||| 2 ^ p < 2 ^ n := Nat.or_lt_two_pow ha (Nat.pow_lt_pow_right (by decide) hp)
theorem tb_flip {a p q : Nat} : (a ^^^ 2 ^ p).testBit q = (a.testBit q ^^ decide (q = p)) := by
  rw [Nat.testBit_xor, Nat.testBit_two_pow]
  congr 1
  by_cases h : p = q
  · rw [decide_eq_true h, decide_eq_true h.symm]
  · rw [decide_eq_false h, decide_eq_false (fun z => h z.symm)]
theorem or_ne0 {a p : Nat} : a ||| 2 ^ p ≠ 0 := fun z => by
  have : (a ||| 2 ^ p).testBit p = true := by rw [tb_ins]; simp
  rw [z, Nat.zero_testBit] at this; cases this
section MOVES
variable {L : LandT} {c p t : Nat}
theorem mvF_lt (hp : p < L.1) (i : Nat) : mvF L c p t i < 2 ^ L.1 := by
  unfold mvF
  split
  · exact xor_lt (sOB_lt _ _ _ _ _) hp
  · split
    · exact or2_lt (sOB_lt _ _ _ _ _) hp
    · exact sOB_lt _ _ _ _ _
theorem mvF_tb (hne : t ≠ dgB 2 L.1 c p) {i q : Nat} (hq : q < L.1) : (mvF L c p t i).testBit q = decide (mvD L c p t q = i) := by
  unfold mvF mvD
  by_cases hqp : q = p
  · subst hqp
    rw [if_pos rfl]
    by_cases h1 : i = dgB 2 L.1 c q
    · rw [if_pos h1, tb_flip, seL_tb hq, decide_eq_true h1.symm, decide_eq_true rfl, decide_eq_false (by omega)]; rfl
    · rw [if_neg h1]
      by_cases h2 : i = t
      · rw [if_pos h2, tb_ins, decide_eq_true rfl, Bool.or_true, decide_eq_true h2.symm]
      · rw [if_neg h2, seL_tb hq, decide_eq_false (by omega), decide_eq_false (by omega)]
  · rw [if_neg hqp]
    by_cases h1 : i = dgB 2 L.1 c p
    · rw [if_pos h1, tb_flip, seL_tb hq, decide_eq_false hqp, Bool.xor_false]
    · rw [if_neg h1]
      by_cases h2 : i = t
      · rw [if_pos h2, tb_ins, seL_tb hq, decide_eq_false hqp, Bool.or_false]
      · rw [if_neg h2, seL_tb hq]
/-- what comes of it for a lawful cut -/
theorem mv_ok (hO : LdOK L) (hl : icN L c (whL L) L.2.1) (hp : p < L.1) (ht : t < L.2.1) (hne : t ≠ dgB 2 L.1 c p) :
    ((lwB L (seL L c (dgB 2 L.1 c p) ^^^ 2 ^ p) && lwB L (seL L c t ||| 2 ^ p)) = true → jdL L (mvL L c p t) = 0 ∧ mvL L c p t ≠ c ∧ PM (mvF L c p t) (seL L (mvL L c p t)) L.2.1 ∧ ∀ i, i < L.2.1 → mvF L c p t i ≠ 0) ∧
    ((lwB L (seL L c (dgB 2 L.1 c p) ^^^ 2 ^ p) && lwB L (seL L c t ||| 2 ^ p)) = false → jdL L (mvL L c p t) ≠ 0) := by
  obtain ⟨hn, hla⟩ := hl
  have hs4 := hO.2.1.2.1
  have hwh : ∀ q, q < L.1 → (whL L).testBit q = true := fun q hq => by rw [tb_wh, decide_eq_true hq]
  have hdm : ∀ q, q < L.1 → dgB 2 L.1 c q < L.2.1 := fun q hq => nuF_lt hn hq (hwh q hq)
  have hD := mvD_lt (L := L) (c := c) (par := p) (seat := t) (show t < 4 by omega)
  have hDm : ∀ q, q < L.1 → mvD L c p t q < L.2.1 := fun q hq => by
    unfold mvD; split
    · exact ht
    · exact hdm q hq
  have hpos : ∀ i, i < L.2.1 → i ≠ dgB 2 L.1 c p → mvF L c p t i ≠ 0 := fun i hi h1 => by
    unfold mvF
    rw [if_neg h1]
    split
    · exact or_ne0
    · exact Nat.ne_of_gt (nuF_pos hn hi)
  have hfr : mvF L c p t (dgB 2 L.1 c p) = seL L c (dgB 2 L.1 c p) ^^^ 2 ^ p := by unfold mvF; rw [if_pos rfl]
  have hft : mvF L c p t t = seL L c t ||| 2 ^ p := by unfold mvF; rw [if_neg hne, if_pos rfl]
  have full : (∀ i, i < L.2.1 → mvF L c p t i ≠ 0) → nuF 2 L.1 (mvL L c p t) (whL L) L.1 = some L.2.1 ∧ PM (mvF L c p t) (seL L (mvL L c p t)) L.2.1 := fun h0 =>
    rn_PM hs4 (fun i hi => ⟨mvF_lt hp i, h0 i hi⟩) hD hDm (fun i hi q hq => mvF_tb hne hq)
  refine ⟨fun hb => ?_, fun hb hj => ?_⟩
  · rw [Bool.and_eq_true] at hb
    have h0 : ∀ i, i < L.2.1 → mvF L c p t i ≠ 0 := fun i hi => by
      by_cases h1 : i = dgB 2 L.1 c p
      · rw [h1, hfr]
        intro z
        have hb := hb.1
        rw [z] at hb
        unfold lwB flB at hb
        rw [if_pos rfl] at hb
        exact absurd hb (by decide)
      · exact hpos i hi h1
    obtain ⟨f1, f2⟩ := full h0
    refine ⟨?_, ?_, f2, h0⟩
    · rw [jdL_ic]
      refine ⟨f1, fun s hs => ?_⟩
      obtain ⟨i, hi, e⟩ := f2.get hs
      show faL L (seL L (mvL L c p t) s) = 0
      rw [e]
      have : lwB L (mvF L c p t i) = true := by
        by_cases h1 : i = dgB 2 L.1 c p
        · rw [h1, hfr]; exact hb.1
        · by_cases h2 : i = t
          · rw [h2, hft]; exact hb.2
          · unfold mvF; rw [if_neg h1, if_neg h2, lwB_fa (Nat.ne_of_gt (nuF_pos hn hi))]
            exact decide_eq_true (hla i hi)
      rw [lwB_fa (h0 i hi)] at this
      exact of_decide_eq_true this
    · intro z
      rw [z] at f2
      obtain ⟨s, hs, e⟩ := f2.back ht
      rw [hft] at e
      have b1 : (seL L c s).testBit p = true := by rw [e, tb_ins]; simp
      rw [seL_tb hp] at b1
      have b1 := of_decide_eq_true b1
      obtain ⟨q, q1, -, q3⟩ := nuF_has hn t ht
      have b2 : (seL L c s).testBit q = true := by rw [e, tb_ins, seL_tb q1, decide_eq_true q3]; rfl
      rw [seL_tb q1] at b2
      have b2 := of_decide_eq_true b2
      omega
  · rw [jdL_ic] at hj
    obtain ⟨j1, j2⟩ := hj
    by_cases h0 : mvF L c p t (dgB 2 L.1 c p) = 0
    · refine rn_few (hdm p hp) hs4 hD (fun q hq => ⟨hDm q hq, fun z => ?_⟩) j1
      have := mvF_tb hne (i := dgB 2 L.1 c p) hq
      rw [h0, Nat.zero_testBit, decide_eq_true z] at this
      cases this
    · have h0 : ∀ i, i < L.2.1 → mvF L c p t i ≠ 0 := fun i hi => by
        by_cases h1 : i = dgB 2 L.1 c p
        · rw [h1]; exact h0
        · exact hpos i hi h1
      obtain ⟨f1, f2⟩ := full h0
      have all : ∀ i, i < L.2.1 → lwB L (mvF L c p t i) = true := fun i hi => by
        obtain ⟨s, hs, e⟩ := f2.back hi
        rw [lwB_fa (h0 i hi), ← e]
        exact decide_eq_true (j2 s hs)
      have a1 := all _ (hdm p hp)
      have a2 := all t ht
      rw [hfr] at a1
      rw [hft] at a2
      rw [a1, a2] at hb
      cases hb
/-- nothing comes of it where the parish is there already -/
theorem mv_id (hl : icN L c (whL L) L.2.1) (hc : c < 4 ^ L.1) : mvL L c p (dgB 2 L.1 c p) = c := by
  obtain ⟨hn, hla⟩ := hl
  have hwh : ∀ q, q < L.1 → (whL L).testBit q = true := fun q hq => by rw [tb_wh, decide_eq_true hq]
  have hD := mvD_lt (L := L) (c := c) (par := p) (seat := dgB 2 L.1 c p) (dgB_lt 2 L.1 c p)
  obtain ⟨r1, r2, r3, r4⟩ := rn_all hD (o := whL L) L.1 hwh
  obtain ⟨o1, o2, o3, o4⟩ := rnF_ok hD L.1
  have e : ∀ q, mvD L c p (dgB 2 L.1 c p) q = dgB 2 L.1 c q := fun q => by
    unfold mvD; split
    · rename_i h; rw [h]
    · rfl
  refine dg_ext (b := 2) (n := L.1) o3 hc (nu_ext hwh r1 hn (fun q q' hq hq' => ?_))
  have a1 := r2 q hq
  have a2 := r2 q' hq'
  constructor
  · intro z
    have := r4 _ _ _ a1 (a2.trans (congrArg some z.symm))
    rw [e, e] at this; exact this
  · intro z
    rw [e] at a1
    rw [e, ← z, a1] at a2
    exact Option.some.inj a2
end MOVES
