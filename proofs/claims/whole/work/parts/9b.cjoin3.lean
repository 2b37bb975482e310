/-! JOINED HALVES: every way to join them is a list of pairs -/
theorem smF_pos1 {n : Nat} {b : Nat → Bool} : ∀ {k : Nat}, k < n → b k = true → 1 ≤ smF n (fun h => if b h then 1 else 0) := by
  induction n with
  | zero => intro k h; omega
  | succ n ih =>
    intro k hk hb
    show 1 ≤ smF n (fun h => if b h then 1 else 0) + (if b n then 1 else 0)
    by_cases z : k = n
    · subst z; rw [if_pos hb]; omega
    · have := ih (show k < n by omega) hb; omega
theorem smF_ex1 {b : Nat → Bool} : ∀ {n : Nat}, 1 ≤ smF n (fun h => if b h then 1 else 0) → ∃ k, k < n ∧ b k = true
  | 0, h => absurd h (Nat.not_succ_le_zero 0)
  | n + 1, h => by
    have h : 1 ≤ smF n (fun h => if b h then 1 else 0) + (if b n then 1 else 0) := h
    by_cases z : b n = true
    · exact ⟨n, by omega, z⟩
    · rw [if_neg z, Nat.add_zero] at h
      obtain ⟨k, h1, h2⟩ := smF_ex1 h
      exact ⟨k, by omega, h2⟩
/-- one of exactly two has one other -/
theorem two_other {b : Nat → Bool} : ∀ {n : Nat}, smF n (fun h => if b h then 1 else 0) = 2 → ∀ i, i < n → b i = true → ∃ j, j < n ∧ j ≠ i ∧ b j = true ∧ ∀ h, h < n → b h = true → h = i ∨ h = j := by
  intro n h i hi hb
  have up := smF_up (u := fun h => if b h then 1 else 0) (a := i) (x := 0) n
  rw [if_pos hi, if_pos hi, if_pos hb] at up
  have e : (fun s => if s = i then 0 else (if b s then 1 else 0)) = (fun s => if (decide (s ≠ i) && b s) then 1 else 0) := by
    funext s
    by_cases z : s = i
    · simp [z]
    · simp [z]
  rw [e] at up
  obtain ⟨j, j1, j2⟩ := smF_ex1 (b := fun s => decide (s ≠ i) && b s) (n := n) (by omega)
  rw [Bool.and_eq_true] at j2
  have j3 := of_decide_eq_true j2.1
  refine ⟨j, j1, j3, j2.2, fun h' hh hbh => ?_⟩
  refine Classical.byContradiction (fun hno => ?_)
  have up2 := smF_up (u := fun s => if (decide (s ≠ i) && b s) then 1 else 0) (a := j) (x := 0) n
  rw [if_pos j1, if_pos j1, if_pos (by rw [decide_eq_true j3, j2.2]; rfl)] at up2
  have e2 : (fun s => if s = j then 0 else (if (decide (s ≠ i) && b s) then 1 else 0)) = (fun s => if (decide (s ≠ j) && (decide (s ≠ i) && b s)) then 1 else 0) := by
    funext s
    by_cases z : s = j
    · simp [z]
    · simp [z]
  rw [e2] at up2
  have := smF_pos1 (b := fun s => decide (s ≠ j) && (decide (s ≠ i) && b s)) (n := n) hh (by
    rw [hbh, decide_eq_true (show h' ≠ j from fun w => hno (Or.inr w)), decide_eq_true (show h' ≠ i from fun w => hno (Or.inl w))]; rfl)
  omega
section HALF
variable {L : LandT} {G : GamT} {c : Nat}
abbrev haG (L : LandT) (G : GamT) (h : Nat) : Nat := sOB 3 L.1 (gDr G) (gOp G) h
abbrev seG (L : LandT) (G : GamT) (c s : Nat) : Nat := sOB 2 L.1 c (gOp G) s
/-- the seat in which a half's lowest parish is -/
theorem half_in (hnu : nuF 3 L.1 (gDr G) (gOp G) L.1 = some (2 * gLe G)) (hc : nuF 2 L.1 c (gOp G) L.1 = some (gLe G)) {h : Nat} (hh : h < 2 * gLe G) : ∃ q, q < L.1 ∧ (gOp G).testBit q = true ∧ dgB 3 L.1 (gDr G) q = h ∧ dgB 2 L.1 c q < gLe G := by
  obtain ⟨q, q1, q2, q3⟩ := nuF_has hnu h hh
  exact ⟨q, q1, q2, q3, nuF_lt hc q1 q2⟩
theorem haG_tb {h q : Nat} (hq : q < L.1) (ho : (gOp G).testBit q = true) : (haG L G h).testBit q = decide (dgB 3 L.1 (gDr G) q = h) := by
  show (sOB 3 L.1 (gDr G) (gOp G) h).testBit q = _
  rw [tb_sOB, decide_eq_true hq, ho]; simp
theorem seG_tb {s q : Nat} (hq : q < L.1) (ho : (gOp G).testBit q = true) : (seG L G c s).testBit q = decide (dgB 2 L.1 c q = s) := by
  show (sOB 2 L.1 c (gOp G) s).testBit q = _
  rw [tb_sOB, decide_eq_true hq, ho]; simp
theorem and0_iff {a b : Nat} : a &&& b = 0 ↔ ∀ q, a.testBit q = true → b.testBit q = false := by
  constructor
  · intro h q hq
    have : (a &&& b).testBit q = false := by rw [h]; exact Nat.zero_testBit q
    rw [Nat.testBit_and, hq, Bool.true_and] at this; exact this
  · intro h
    apply Nat.eq_of_testBit_eq
    intro q
    rw [Nat.testBit_and, Nat.zero_testBit]
    cases ha : a.testBit q with
    | false => rfl
    | true => rw [h q ha]; rfl
/-- as the class counts: each seat holds just two halves -/
def joQ (L : LandT) (G : GamT) (c : Nat) : Prop := ∀ s, s < gLe G → smF (2 * gLe G) (fun h => if dif (haG L G h) (seG L G c s) = 0 then 1 else 0) = 2
theorem joB_iff (hnu : nuF 3 L.1 (gDr G) (gOp G) L.1 = some (2 * gLe G)) (hc : nuF 2 L.1 c (gOp G) L.1 = some (gLe G)) : joB L G c = true ↔ joQ L G c := by
  unfold joB
  rw [decide_eq_true_iff]
  constructor
  · intro h s hs
    obtain ⟨h1, h2⟩ := h s hs
    refine Eq.trans (smF_lt (fun k hk => ?_)) h2
    obtain ⟨q, q1, q2, q3, q4⟩ := half_in hnu hc hk
    have hb : (haG L G k).testBit q = true := by rw [haG_tb q1 q2]; exact decide_eq_true q3
    by_cases hd : dif (haG L G k) (seG L G c s) = 0
    · rw [if_pos hd, if_neg]
      intro hz
      have a := dif_sub.mp hd q hb
      have b := and0_iff.mp hz q hb
      rw [a] at b; cases b
    · rw [if_neg hd]
      rcases h1 k hk with z | z
      · rw [if_pos z]
      · exact absurd z hd
  · intro h
    have hκ : ∀ k, k < 2 * gLe G → smF (gLe G) (fun s => if dif (haG L G k) (seG L G c s) = 0 then 1 else 0) ≤ 1 ∧ ∃ t, t < gLe G ∧ ∀ s, s < gLe G → dif (haG L G k) (seG L G c s) = 0 → s = t := fun k hk => by
      obtain ⟨q, q1, q2, q3, q4⟩ := half_in hnu hc hk
      have hb : (haG L G k).testBit q = true := by rw [haG_tb q1 q2]; exact decide_eq_true q3
      have ho : ∀ s, s < gLe G → dif (haG L G k) (seG L G c s) = 0 → s = dgB 2 L.1 c q := fun s hs hd => by
        have := dif_sub.mp hd q hb
        rw [seG_tb q1 q2] at this
        exact (of_decide_eq_true this).symm
      refine ⟨?_, dgB 2 L.1 c q, q4, ho⟩
      have e := smF_one2 (x := dgB 2 L.1 c q) (u := fun _ => 1) (gLe G)
      rw [if_pos q4] at e
      refine Nat.le_trans ?_ (Nat.le_of_eq e)
      have : ∀ n, n ≤ gLe G → smF n (fun s => if dif (haG L G k) (seG L G c s) = 0 then 1 else 0) ≤ smF n (fun j => if dgB 2 L.1 c q = j then 1 else 0) := by
        intro n
        induction n with
        | zero => intro _; exact Nat.le_refl _
        | succ n ih =>
          intro hn
          have i := ih (by omega)
          show smF n _ + (if dif (haG L G k) (seG L G c n) = 0 then 1 else 0) ≤ smF n _ + (if dgB 2 L.1 c q = n then 1 else 0)
          by_cases hd : dif (haG L G k) (seG L G c n) = 0
          · rw [if_pos hd, if_pos (ho n (by omega) hd).symm]; omega
          · rw [if_neg hd]; omega
      exact this _ (Nat.le_refl _)
    have tot : smF (2 * gLe G) (fun k => smF (gLe G) (fun s => if dif (haG L G k) (seG L G c s) = 0 then 1 else 0)) = 2 * gLe G := by
      rw [smF_swap (fun k s => if dif (haG L G k) (seG L G c s) = 0 then 1 else 0)]
      have : ∀ n, n ≤ gLe G → smF n (fun s => smF (2 * gLe G) (fun k => if dif (haG L G k) (seG L G c s) = 0 then 1 else 0)) = 2 * n := by
        intro n
        induction n with
        | zero => intro _; rfl
        | succ n ih =>
          intro hn
          show smF n _ + smF (2 * gLe G) _ = _
          rw [ih (by omega), h n (by omega)]; omega
      exact this _ (Nat.le_refl _)
    have each : ∀ k, k < 2 * gLe G → smF (gLe G) (fun s => if dif (haG L G k) (seG L G c s) = 0 then 1 else 0) = 1 := by
      have ones : ∀ n, smF n (fun _ => 1) = n := by
        intro n
        induction n with
        | zero => rfl
        | succ n ih => show smF n (fun _ => 1) + 1 = n + 1; rw [ih]
      have gen : ∀ (n : Nat) (f : Nat → Nat), (∀ k, k < n → f k ≤ 1) → n ≤ smF n f → ∀ k, k < n → f k = 1 := by
        intro n f
        induction n with
        | zero => intro _ _ k hk; omega
        | succ n ih =>
          intro h1 h2 k hk
          have h2 : n + 1 ≤ smF n f + f n := h2
          have a := h1 n (by omega)
          have b : smF n f ≤ n := by
            have : ∀ j, j ≤ n → smF j f ≤ j := by
              intro j
              induction j with
              | zero => intro _; exact Nat.le_refl _
              | succ j ij =>
                intro hj
                have := ij (by omega)
                have := h1 j (by omega)
                show smF j f + f j ≤ j + 1
                omega
            exact this n (Nat.le_refl _)
          by_cases z : k = n
          · subst z; omega
          · exact ih (fun k hk => h1 k (by omega)) (by omega) k (by omega)
      exact gen _ _ (fun k hk => (hκ k hk).1) (by rw [tot]; exact Nat.le_refl _)
    have sit : ∀ k, k < 2 * gLe G → ∃ t, t < gLe G ∧ dif (haG L G k) (seG L G c t) = 0 := fun k hk => by
      obtain ⟨t, t1, t2⟩ := smF_ex1 (b := fun s => decide (dif (haG L G k) (seG L G c s) = 0)) (n := gLe G) (by
        have := each k hk
        simp only [decide_eq_true_eq]
        omega)
      exact ⟨t, t1, of_decide_eq_true t2⟩
    have alt : ∀ s, s < gLe G → ∀ k, k < 2 * gLe G → haG L G k &&& seG L G c s = 0 ∨ dif (haG L G k) (seG L G c s) = 0 := fun s hs k hk => by
      obtain ⟨t, t1, t2⟩ := sit k hk
      by_cases z : s = t
      · subst z; exact Or.inr t2
      · left
        rw [and0_iff]
        intro q hq
        have := dif_sub.mp t2 q hq
        rw [tb_sOB] at this ⊢
        simp only [Bool.and_eq_true, decide_eq_true_eq] at this
        rw [decide_eq_false (show ¬ dgB 2 L.1 c q = s by omega)]; simp
    intro s hs
    refine ⟨alt s hs, ?_⟩
    refine Eq.trans (smF_lt (fun k hk => ?_)) (h s hs)
    obtain ⟨q, q1, q2, q3, q4⟩ := half_in hnu hc hk
    have hb : (haG L G k).testBit q = true := by rw [haG_tb q1 q2]; exact decide_eq_true q3
    by_cases hd : dif (haG L G k) (seG L G c s) = 0
    · rw [if_pos hd, if_neg]
      intro hz
      have a := dif_sub.mp hd q hb
      have b := and0_iff.mp hz q hb
      rw [a] at b; cases b
    · rw [if_neg hd]
      rcases alt s hs k hk with z | z
      · rw [if_pos z]
      · exact absurd z hd
/-- each of them comes of a list of pairs -/
theorem jo_pairs (hm : gLe G ≤ 4) (hnu : nuF 3 L.1 (gDr G) (gOp G) L.1 = some (2 * gLe G)) (hc : icN L c (gOp G) (gLe G)) (hcl : c < 4 ^ L.1) (hj : joB L G c = true) : ∃ ps, PRp L (haG L G) (2 * gLe G) 0 ps ∧ pcut L (gDr G) (gOp G) ps = c := by
  obtain ⟨hcn, hla⟩ := hc
  have hj := of_decide_eq_true hj
  -- the seat of a half
  have hk : ∀ h, ∃ t, h < 2 * gLe G → t < gLe G ∧ ∀ q, q < L.1 → (gOp G).testBit q = true → dgB 3 L.1 (gDr G) q = h → dgB 2 L.1 c q = t := fun h => by
    by_cases hh : h < 2 * gLe G
    · obtain ⟨q, q1, q2, q3, q4⟩ := half_in hnu hcn hh
      refine ⟨dgB 2 L.1 c q, fun _ => ⟨q4, fun q' r1 r2 r3 => ?_⟩⟩
      have hb : (haG L G h).testBit q = true := by rw [haG_tb q1 q2]; exact decide_eq_true q3
      rcases (hj _ q4).1 h hh with z | z
      · have := and0_iff.mp z q hb
        rw [seG_tb q1 q2, decide_eq_true rfl] at this; cases this
      · have hb' : (haG L G h).testBit q' = true := by rw [haG_tb r1 r2]; exact decide_eq_true r3
        have := dif_sub.mp z q' hb'
        rw [seG_tb r1 r2] at this
        exact of_decide_eq_true this
    · exact ⟨0, fun w => absurd w hh⟩
  obtain ⟨κ, hκ⟩ := Classical.axiomOfChoice hk
  have meets : ∀ h s, h < 2 * gLe G → (haG L G h &&& seG L G c s = 0 ↔ κ h ≠ s) := fun h s hh => by
    obtain ⟨q, q1, q2, q3, q4⟩ := half_in hnu hcn hh
    obtain ⟨k1, k2⟩ := hκ h hh
    rw [and0_iff]
    constructor
    · intro w z
      have hb : (haG L G h).testBit q = true := by rw [haG_tb q1 q2]; exact decide_eq_true q3
      have := w q hb
      rw [seG_tb q1 q2, k2 q q1 q2 q3, decide_eq_true z] at this; cases this
    · intro w q' hq'
      rw [tb_sOB] at hq' ⊢
      simp only [Bool.and_eq_true, decide_eq_true_eq] at hq'
      rw [k2 q' hq'.1 hq'.2.1 hq'.2.2, decide_eq_false w]; simp
  have two : ∀ s, s < gLe G → smF (2 * gLe G) (fun h => if decide (κ h = s) then 1 else 0) = 2 := fun s hs => by
    refine Eq.trans (smF_lt (fun h hh => ?_)) (hj s hs).2
    by_cases z : κ h = s
    · rw [decide_eq_true z, if_pos rfl, if_neg (fun w => ((meets h s hh).mp w) z)]
    · rw [decide_eq_false z, if_neg (by decide), if_pos ((meets h s hh).mpr z)]
  have build : ∀ r u, u < 256 → pcN (2 * gLe G) u + 2 * r = 2 * gLe G → (∀ h h', h < 2 * gLe G → h' < 2 * gLe G → κ h = κ h' → u.testBit h = u.testBit h') → ∃ ps, PRp L (haG L G) (2 * gLe G) u ps ∧ ∀ q, q ∈ ps → κ q.1 = κ q.2 := by
    intro r
    induction r with
    | zero =>
      intro u hu hp hcl
      exact ⟨[], (pc_lo u hu _ (by omega)).1 (by omega), fun q hq => by cases hq⟩
    | succ r ih =>
      intro u hu hp hclo
      have hlo : loN u < 2 * gLe G := by
        refine Classical.byContradiction (fun z => ?_)
        have := (pc_lo u hu (2 * gLe G) (by omega)).2.1 (by omega)
        omega
      have hlob := (lo_dec u hu).2 (by omega)
      obtain ⟨k1, k2⟩ := hκ _ hlo
      obtain ⟨o, o1, o2, o3, o4⟩ := two_other (b := fun h => decide (κ h = κ (loN u))) (two _ k1) (loN u) hlo (decide_eq_true rfl)
      have o3 := of_decide_eq_true o3
      have ob : u.testBit o = false := by rw [← hclo (loN u) o hlo o1 o3.symm]; exact hlob
      have ogt : loN u < o := by
        rcases Nat.lt_or_ge (loN u) o with z | z
        · exact z
        · have := lo_below u hu o (by omega)
          rw [this] at ob; cases ob
      have hset : haG L G (loN u) ||| haG L G o = seG L G c (κ (loN u)) := by
        apply Nat.eq_of_testBit_eq
        intro q
        rw [Nat.testBit_or, tb_sOB, tb_sOB, tb_sOB]
        by_cases hq : q < L.1
        · rw [decide_eq_true hq, Bool.true_and, Bool.true_and, Bool.true_and]
          cases hoq : (gOp G).testBit q with
          | false => rfl
          | true =>
            rw [Bool.true_and, Bool.true_and, Bool.true_and]
            have hd := nuF_lt hnu hq hoq
            have hs := (hκ _ hd).2 q hq hoq rfl
            rw [hs]
            by_cases hz : κ (dgB 3 L.1 (gDr G) q) = κ (loN u)
            · rw [decide_eq_true hz]
              rcases o4 _ hd (decide_eq_true hz) with w | w
              · rw [decide_eq_true w]; rfl
              · rw [decide_eq_true w]; simp
            · rw [decide_eq_false hz, decide_eq_false (fun w => hz (by rw [w])), decide_eq_false (fun w => hz (by rw [w]; exact o3))]; rfl
        · rw [decide_eq_false hq]; simp
      have hz := zc_2 u hu (2 * gLe G) (by omega) o o1 ogt ob
      obtain ⟨ps, p1, p2⟩ := ih ((u ||| 2 ^ loN u) ||| 2 ^ o) (u_or hu (by omega) (by omega)) (by omega) (fun h h' hh hh' he => by
        rw [tb_or2, tb_or2, hclo h h' hh hh' he]
        have cls : ∀ x, x < 2 * gLe G → (decide (x = loN u) || decide (x = o)) = decide (κ x = κ (loN u)) := fun x hx => by
          by_cases w : κ x = κ (loN u)
          · rw [decide_eq_true w]
            rcases o4 x hx (decide_eq_true w) with v | v
            · rw [decide_eq_true v]; rfl
            · rw [decide_eq_true v]; simp
          · rw [decide_eq_false w, decide_eq_false (fun v => w (by rw [v])), decide_eq_false (fun v => w (by rw [v]; exact o3))]; rfl
        rw [Bool.or_assoc, Bool.or_assoc, cls h hh, cls h' hh', he])
      refine ⟨(loN u, o) :: ps, ⟨hlo, rfl, ogt, o1, ob, ?_, p1⟩, fun q hq => ?_⟩
      · show faL L (haG L G (loN u) ||| haG L G o) = 0
        rw [hset]; exact hla _ k1
      · rcases List.mem_cons.mp hq with w | w
        · subst w; exact o3.symm
        · exact p2 q w
  obtain ⟨ps, hp, hps⟩ := build (gLe G) 0 (by decide) (by rw [pc0 (by omega)]; omega) (fun h h' _ _ _ => by rw [Nat.zero_testBit, Nat.zero_testBit])
  refine ⟨ps, hp, ?_⟩
  obtain ⟨e1, e2, e3, e4, e5⟩ := pcut_ok hm hnu hp
  -- equal digits
  have t0 : ∀ h : Nat, (0 : Nat).testBit h = false := fun h => Nat.zero_testBit h
  have hpk : ∀ q, q < L.1 → (gOp G).testBit q = true → dgB 2 L.1 (pcut L (gDr G) (gOp G) ps) q = pkF ps (dgB 3 L.1 (gDr G) q) := fun q hq ho => by
    unfold pcut
    rw [dg_ofD (fun q => by
      split
      · exact Nat.mod_lt _ (by decide)
      · decide) L.1 q hq, if_pos ho]
    have := pr_lt (by omega) ps 0 _ (by decide) hp (nuF_lt hnu hq ho) (t0 _)
    exact Nat.mod_eq_of_lt (by omega)
  have ker : ∀ h h', h < 2 * gLe G → h' < 2 * gLe G → (pkF ps h = pkF ps h' ↔ κ h = κ h') := fun h h' hh hh' => by
    have l1 := pr_lt (by omega) ps 0 h (by decide) hp hh (t0 _)
    have hk1 : ps[pkF ps h]? = some (ps[pkF ps h]'l1) := List.getElem?_eq_getElem l1
    obtain ⟨a1, a2, a3, a4, a5, a6, a7, a8, a9⟩ := pr_at (by omega) ps 0 _ _ (by decide) hp hk1
    have kq := hps _ (List.getElem_mem l1)
    have hin := a8 h hh (t0 _) rfl
    constructor
    · intro z
      have hin' := a8 h' hh' (t0 _) z.symm
      rcases hin with w | w <;> rcases hin' with v | v <;> rw [w, v] <;> first | rfl | exact kq | exact kq.symm
    · intro z
      obtain ⟨k1, k2⟩ := hκ h hh
      obtain ⟨j, j1, j2, j3, j4⟩ := two_other (b := fun x => decide (κ x = κ h)) (two _ k1) h hh (decide_eq_true rfl)
      have m1 := j4 h' hh' (decide_eq_true z.symm)
      rcases m1 with w | w
      · rw [w]
      · subst w
        rcases hin with v | v
        · have := j4 (ps[pkF ps h]'l1).2 a2 (decide_eq_true (by rw [← kq, ← v]))
          rcases this with x | x
          · omega
          · rw [← x]; exact a7.symm
        · have := j4 (ps[pkF ps h]'l1).1 (by omega) (decide_eq_true (by rw [kq, ← v]))
          rcases this with x | x
          · omega
          · rw [← x]; exact a6.symm
  obtain ⟨x1, x2, x3, x4⟩ := nuF_iff.mp e3
  obtain ⟨y1, y2, y3, y4⟩ := nuF_iff.mp hcn
  refine dg_ext (b := 2) (n := L.1) e2 hcl (fun q => ?_)
  induction q using Nat.strongRecOn with
  | _ q ih =>
    intro hq
    cases ho : (gOp G).testBit q with
    | false => rw [x4 q hq ho, y4 q hq ho]
    | true =>
      have hd := nuF_lt hnu hq ho
      have sc := (hκ _ hd).2 q hq ho rfl
      rcases Nat.lt_trichotomy (dgB 2 L.1 (pcut L (gDr G) (gOp G) ps) q) (dgB 2 L.1 c q) with hlt | he | hgt
      · obtain ⟨q', h1, h2, h3⟩ := y3 q hq ho _ hlt
        have i := ih q' h1 (by omega)
        have hd' := nuF_lt hnu (show q' < L.1 by omega) h2
        have sc' := (hκ _ hd').2 q' (by omega) h2 rfl
        have i2 : dgB 2 L.1 (pcut L (gDr G) (gOp G) ps) q' = dgB 2 L.1 (pcut L (gDr G) (gOp G) ps) q := i.trans h3
        rw [hpk q' (by omega) h2, hpk q hq ho, ker _ _ hd' hd] at i2
        omega
      · exact he
      · obtain ⟨q', h1, h2, h3⟩ := x3 q hq ho _ hgt
        have i := ih q' h1 (by omega)
        have hd' := nuF_lt hnu (show q' < L.1 by omega) h2
        have sc' := (hκ _ hd').2 q' (by omega) h2 rfl
        have i2 : κ (dgB 3 L.1 (gDr G) q') = κ (dgB 3 L.1 (gDr G) q) := by rw [← sc', ← sc, ← i]; exact h3
        rw [← ker _ _ hd' hd, ← hpk q' (by omega) h2, ← hpk q hq ho] at i2
        omega
end HALF
