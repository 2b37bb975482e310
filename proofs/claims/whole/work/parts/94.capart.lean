/-! HOW FAR APART: only a cut itself is at no distance -/
theorem smF_le2 {f g : Nat → Nat} (h : ∀ p, f p ≤ g p) : ∀ n, smF n f ≤ smF n g
  | 0 => Nat.le_refl _
  | n + 1 => by
    show smF n f + f n ≤ smF n g + g n
    have := smF_le2 h n
    have := h n
    omega
theorem smF_eqs {f g : Nat → Nat} (h : ∀ p, f p ≤ g p) : ∀ n, smF n g ≤ smF n f → ∀ p, p < n → f p = g p
  | 0, _, p, hp => by omega
  | n + 1, hs, p, hp => by
    have hs : smF n g + g n ≤ smF n f + f n := hs
    have h1 := smF_le2 h n
    have h2 := h n
    by_cases z : p = n
    · subst z; omega
    · exact smF_eqs h n (by omega) p (by omega)
theorem pc_and_le (a b : Nat) : pcN 9 (a &&& b) ≤ pcN 9 a := smF_le2 (fun p => by
  rw [Nat.testBit_and]
  cases a.testBit p <;> cases b.testBit p <;> decide) 9
theorem pc_and_eq {a b : Nat} (ha : a < 512) (h : pcN 9 a ≤ pcN 9 (a &&& b)) : sub a b := fun q hq => by
  have hq9 : q < 9 := by
    refine Classical.byContradiction (fun hc => ?_)
    have := tbF (a := a) (n := 9) (q := q) ha (by omega)
    rw [this] at hq; cases hq
  have := smF_eqs (f := fun p => if (a &&& b).testBit p then 1 else 0) (g := fun p => if a.testBit p then 1 else 0) (fun p => by
    rw [Nat.testBit_and]
    cases a.testBit p <;> cases b.testBit p <;> decide) 9 h q hq9
  try dsimp only at this
  rw [if_pos hq, Nat.testBit_and, hq, Bool.true_and] at this
  cases hb : b.testBit q with
  | true => rfl
  | false => rw [hb] at this; exact absurd this (by decide)
def suS (L : LandT) (c : Nat) : Nat → Nat
  | 0 => 0
  | r + 1 => pcN 9 (seL L c (L.2.1 - (r + 1))) + suS L c r
theorem suS_sm {L : LandT} {c : Nat} : ∀ r, r ≤ L.2.1 → smF (L.2.1 - r) (fun k => pcN 9 (seL L c k)) + suS L c r = smF L.2.1 (fun k => pcN 9 (seL L c k))
  | 0, _ => rfl
  | r + 1, h => by
    have ih := suS_sm (L := L) (c := c) r (by omega)
    have e : L.2.1 - r = (L.2.1 - (r + 1)) + 1 := by omega
    have e2 : smF (L.2.1 - r) (fun k => pcN 9 (seL L c k)) = smF (L.2.1 - (r + 1)) (fun k => pcN 9 (seL L c k)) + pcN 9 (seL L c (L.2.1 - (r + 1))) := by rw [e]; rfl
    show _ + (pcN 9 (seL L c (L.2.1 - (r + 1))) + suS L c r) = _
    omega
theorem smF_ind {n : Nat} : ∀ k, smF k (fun p => if p < n then 1 else 0) = min k n
  | 0 => by simp [smF]
  | k + 1 => by
    show smF k (fun p => if p < n then 1 else 0) + (if k < n then 1 else 0) = _
    rw [smF_ind k]
    split <;> omega
theorem suS_all {L : LandT} {c m : Nat} (hn : L.1 ≤ 9) (hm : m = L.2.1) (h : nuF 2 L.1 c (whL L) L.1 = some m) : suS L c L.2.1 = L.1 := by
  have h1 := suS_sm (L := L) (c := c) L.2.1 (Nat.le_refl _)
  rw [Nat.sub_self] at h1
  have h1 : 0 + suS L c L.2.1 = _ := h1
  rw [Nat.zero_add] at h1
  rw [h1]
  have e : smF L.2.1 (fun k => pcN 9 (seL L c k)) = smF 9 (fun p => smF L.2.1 (fun k => if (seL L c k).testBit p then 1 else 0)) := smF_swap (fun k p => if (seL L c k).testBit p then 1 else 0) 9 L.2.1
  rw [e]
  have e2 : smF 9 (fun p => smF L.2.1 (fun k => if (seL L c k).testBit p then 1 else 0)) = smF 9 (fun p => if p < L.1 then 1 else 0) := smF_lt (fun p hp => by
    by_cases hq : p < L.1
    · rw [if_pos hq]
      have := smF_one2 (x := dgB 2 L.1 c p) (u := fun _ => 1) L.2.1
      rw [if_pos (by rw [← hm]; exact nuF_lt h hq (by rw [tb_wh, decide_eq_true hq]))] at this
      refine Eq.trans (smF_lt (fun k hk => ?_)) this
      rw [seL_tb hq]
      by_cases z : dgB 2 L.1 c p = k
      · rw [decide_eq_true z, if_pos rfl, if_pos z]
      · rw [decide_eq_false z, if_neg (by decide), if_neg z]
    · rw [if_neg hq]
      have : smF L.2.1 (fun k => if (seL L c k).testBit p then 1 else 0) = smF L.2.1 (fun _ => 0) := smF_lt (fun k hk => by
        rw [tbF (sOB_lt _ _ _ _ _) (show L.1 ≤ p by omega), if_neg (by decide)])
      rw [this, smF_zero])
  rw [e2, smF_ind]; omega
theorem stB_up {L : LandT} {c e : Nat} : ∀ r u, stB L c e r u ≤ suS L c r
  | 0, u => Nat.le_refl _
  | r + 1, u => by
    rw [stB_S]
    refine mxF_le (fun o _ => ?_)
    split
    · exact Nat.zero_le _
    · have := stB_up (L := L) (c := c) (e := e) r (u ||| 2 ^ o)
      have := pc_and_le (seL L c (L.2.1 - (r + 1))) (seL L e o)
      show wP L c e _ o + _ ≤ pcN 9 _ + suS L c r
      unfold wP; omega
theorem pc_pos {a : Nat} (ha : a < 512) (h : 1 ≤ a) : 1 ≤ pcN 9 a := by
  rcases Nat.eq_zero_or_pos (pcN 9 a) with z | z
  · refine absurd ?_ (show ¬ a = 0 by omega)
    refine eq0_of (n := 9) ha (fun q hq => ?_)
    have := smF_eqs (f := fun _ => 0) (g := fun p => if a.testBit p then 1 else 0) (fun p => Nat.zero_le _) 9 (by have z : smF 9 (fun p => if a.testBit p then 1 else 0) = 0 := z; omega) q hq
    cases hb : a.testBit q with
    | false => rfl
    | true => rw [hb] at this; exact absurd this (by decide)
  · exact z
theorem stB_eq {L : LandT} {c e : Nat} (hn : L.1 ≤ 9) (hp : ∀ s, s < L.2.1 → 1 ≤ seL L c s) : ∀ r u, r ≤ L.2.1 → suS L c r ≤ stB L c e r u → ∃ o : Nat → Nat, (∀ k, L.2.1 - r ≤ k → k < L.2.1 → o k < L.2.1 ∧ u.testBit (o k) = false ∧ sub (seL L c k) (seL L e (o k))) ∧ ∀ j k, L.2.1 - r ≤ j → j < k → k < L.2.1 → o j ≠ o k
  | 0, u, _, _ => ⟨fun _ => 0, fun k h1 h2 => by omega, fun j k h1 h2 h3 => by omega⟩
  | r + 1, u, hr, h => by
    rw [stB_S] at h
    have h512 := p9 hn
    have hlt : ∀ x s, seL L x s < 512 := fun x s => Nat.lt_of_lt_of_le (sOB_lt _ _ _ _ _) h512
    have hpp := pc_pos (hlt c (L.2.1 - (r + 1))) (hp _ (by omega))
    have h : pcN 9 (seL L c (L.2.1 - (r + 1))) + suS L c r ≤ _ := h
    rcases mxF_at (fun o => if u.testBit o then 0 else wP L c e (L.2.1 - (r + 1)) o + stB L c e r (u ||| 2 ^ o)) L.2.1 with z | ⟨k0, hk, z⟩
    · rw [z] at h; omega
    · rw [z] at h
      try dsimp only at h
      by_cases hb : u.testBit k0 = true
      · rw [if_pos hb] at h; omega
      · rw [if_neg hb] at h
        have hb : u.testBit k0 = false := by simpa using hb
        have a1 := stB_up (L := L) (c := c) (e := e) r (u ||| 2 ^ k0)
        have a2 := pc_and_le (seL L c (L.2.1 - (r + 1))) (seL L e k0)
        unfold wP at h
        obtain ⟨o, o1, o2⟩ := stB_eq (e := e) hn hp r (u ||| 2 ^ k0) (by omega) (by omega)
        have hs := pc_and_eq (hlt c (L.2.1 - (r + 1))) (b := seL L e k0) (by omega)
        have ou : ∀ k, L.2.1 - r ≤ k → k < L.2.1 → u.testBit (o k) = false ∧ o k ≠ k0 := fun k h1 h2 => by
          have := (o1 k h1 h2).2.1
          rw [tb_ins, Bool.or_eq_false_iff] at this
          exact ⟨this.1, of_decide_eq_false this.2⟩
        refine ⟨fun k => if k = L.2.1 - (r + 1) then k0 else o k, fun k h1 h2 => ?_, fun j k h1 h2 h3 => ?_⟩
        · try dsimp only
          by_cases hq : k = L.2.1 - (r + 1)
          · rw [if_pos hq, hq]; exact ⟨hk, hb, hs⟩
          · rw [if_neg hq]
            obtain ⟨x1, x2, x3⟩ := o1 k (by omega) h2
            exact ⟨x1, (ou k (by omega) h2).1, x3⟩
        · try dsimp only
          rw [if_neg (show ¬ k = L.2.1 - (r + 1) by omega)]
          by_cases hq : j = L.2.1 - (r + 1)
          · rw [if_pos hq]; exact fun w => (ou k (by omega) h3).2 w.symm
          · rw [if_neg hq]; exact o2 j k (by omega) h2 h3
section APART
variable {L : LandT} {c e : Nat}
theorem ds_le (hO : LdOK L) : dsL L c e ≤ L.1 := by unfold dsL; omega
theorem ds_0 (hO : LdOK L) (hc : c < 4 ^ L.1) (he : e < 4 ^ L.1) (h1 : nuF 2 L.1 c (whL L) L.1 = some L.2.1) (h2 : nuF 2 L.1 e (whL L) L.1 = some L.2.1) : 0 ≤ dsL L c e ∧ (dsL L c e ≤ 0 → c = e) := by
  have hu := suS_all hO.1.2 rfl h1
  have hb := stB_up (L := L) (c := c) (e := e) L.2.1 0
  have hwh : ∀ q, q < L.1 → (whL L).testBit q = true := fun q hq => by rw [tb_wh, decide_eq_true hq]
  refine ⟨by unfold dsL; omega, fun h => ?_⟩
  unfold dsL at h
  obtain ⟨o, o1, o2⟩ := stB_eq (e := e) hO.1.2 (fun s hs => nuF_pos h1 hs) L.2.1 0 (Nat.le_refl _) (by omega)
  rw [Nat.sub_self] at o1 o2
  have hin : ∀ q, q < L.1 → dgB 2 L.1 e q = o (dgB 2 L.1 c q) := fun q hq => by
    have hk := nuF_lt h1 hq (hwh q hq)
    have := (o1 _ (Nat.zero_le _) hk).2.2 q (by rw [seL_tb hq]; exact decide_eq_true rfl)
    rw [seL_tb hq] at this
    exact of_decide_eq_true this
  refine dg_ext (b := 2) (n := L.1) hc he (nu_ext hwh h1 h2 (fun q q' hq hq' => ?_))
  constructor
  · intro z; rw [hin q hq, hin q' hq', z]
  · intro z
    rw [hin q hq, hin q' hq'] at z
    have k1 := nuF_lt h1 hq (hwh q hq)
    have k2 := nuF_lt h1 hq' (hwh q' hq')
    rcases Nat.lt_trichotomy (dgB 2 L.1 c q) (dgB 2 L.1 c q') with w | w | w
    · exact absurd z (o2 _ _ (Nat.zero_le _) w k2)
    · exact w
    · exact absurd z.symm (o2 _ _ (Nat.zero_le _) w k1)
theorem stB_self (hO : LdOK L) : ∀ r u, r ≤ L.2.1 → (∀ o, L.2.1 - r ≤ o → u.testBit o = false) → suS L c r ≤ stB L c c r u
  | 0, u, _, _ => Nat.le_refl _
  | r + 1, u, hr, hu => by
    rw [stB_S]
    have ih := stB_self hO r (u ||| 2 ^ (L.2.1 - (r + 1))) (by omega) (fun o ho => by
      rw [tb_ins, hu o (by omega), decide_eq_false (by omega)]; rfl)
    have e : wP L c c (L.2.1 - (r + 1)) (L.2.1 - (r + 1)) = pcN 9 (seL L c (L.2.1 - (r + 1))) := by unfold wP; rw [Nat.and_self]
    have t : (if u.testBit (L.2.1 - (r + 1)) then 0 else wP L c c (L.2.1 - (r + 1)) (L.2.1 - (r + 1)) + stB L c c r (u ||| 2 ^ (L.2.1 - (r + 1)))) = pcN 9 (seL L c (L.2.1 - (r + 1))) + stB L c c r (u ||| 2 ^ (L.2.1 - (r + 1))) := by
      rw [if_neg (by rw [hu _ (Nat.le_refl _)]; decide), e]
    have g := Nat.le_trans (Nat.le_of_eq t.symm) (mxF_ge (f := fun o => if u.testBit o then 0 else wP L c c (L.2.1 - (r + 1)) o + stB L c c r (u ||| 2 ^ o)) (show L.2.1 - (r + 1) < L.2.1 by omega))
    show pcN 9 (seL L c (L.2.1 - (r + 1))) + suS L c r ≤ _
    omega
theorem ds_self (hO : LdOK L) (hc : c < 4 ^ L.1) (h1 : nuF 2 L.1 c (whL L) L.1 = some L.2.1) : dsL L c c = 0 := by
  have hu := suS_all hO.1.2 rfl h1
  have a := stB_self (c := c) hO L.2.1 0 (Nat.le_refl _) (fun o _ => Nat.zero_testBit o)
  have b := (ds_0 hO hc hc h1 h1).1
  unfold dsL at b ⊢
  omega
theorem nr_stop {b : Nat × Int} : ∀ xs, (∀ o, o ∈ xs → seB L o = true → b.2 ≤ dsL L c o) → nrF L c xs (some b) = some b
  | [], _ => rfl
  | o :: xs, h => by
    have h1 : ¬ (dsL L c o < b.2 ∧ seB L o = true) := fun z => by
      have := h o (by simp) z.2
      have := z.1
      omega
    show (if dsL L c o < b.2 ∧ seB L o = true then _ else nrF L c xs (some b)) = _
    rw [if_neg h1]
    exact nr_stop xs (fun o ho => h o (by simp [ho]))
/-- a settled cut is the nearest to itself -/
theorem nr_self (h0 : dsL L c c = 0) (hs : seB L c = true) : ∀ xs b, c ∈ xs → (∀ o, o ∈ xs → 0 ≤ dsL L c o ∧ (dsL L c o ≤ 0 → o = c)) → (∀ q, b = some q → 0 < q.2 ∨ q = (c, 0)) → nrF L c xs b = some (c, 0)
  | [], _, h, _, _ => by cases h
  | o :: xs, b, h, hd, hb => by
    have hd' : ∀ o', o' ∈ xs → 0 ≤ dsL L c o' ∧ (dsL L c o' ≤ 0 → o' = c) := fun o' ho => hd o' (by simp [ho])
    have stop : nrF L c xs (some (c, 0)) = some (c, 0) := nr_stop xs (fun o' ho _ => (hd' o' ho).1)
    obtain ⟨d1, d2⟩ := hd o (by simp)
    by_cases hoc : o = c
    · subst hoc
      cases b with
      | none =>
        show (if seB L o = true then nrF L o xs (some (o, dsL L o o)) else nrF L o xs none) = _
        rw [if_pos hs, h0]; exact stop
      | some q =>
        show (if dsL L o o < q.2 ∧ seB L o = true then nrF L o xs (some (o, dsL L o o)) else nrF L o xs (some q)) = _
        rcases hb q rfl with z | z
        · rw [if_pos ⟨by omega, hs⟩, h0]; exact stop
        · rw [z, if_neg (fun w => by have := w.1; dsimp only at this; omega)]; exact stop
    · have hin : c ∈ xs := by
        rcases List.mem_cons.mp h with z | z
        · exact absurd z.symm hoc
        · exact z
      have hpos : 0 < dsL L c o := by
        rcases (show dsL L c o ≤ 0 ∨ 0 < dsL L c o by omega) with z | z
        · exact absurd (d2 z) hoc
        · exact z
      cases b with
      | none =>
        show (if seB L o = true then nrF L c xs (some (o, dsL L c o)) else nrF L c xs none) = _
        split
        · exact nr_self h0 hs xs _ hin hd' (fun q hq => by cases hq; exact Or.inl hpos)
        · exact nr_self h0 hs xs _ hin hd' (fun q hq => by cases hq)
      | some q =>
        show (if dsL L c o < q.2 ∧ seB L o = true then nrF L c xs (some (o, dsL L c o)) else nrF L c xs (some q)) = _
        split
        · exact nr_self h0 hs xs _ hin hd' (fun q hq => by cases hq; exact Or.inl hpos)
        · exact nr_self h0 hs xs _ hin hd' hb
end APART
