/-! WHAT HOLDS ALONG A GAME -/
def cvN (ks : List Nat) (q : Nat) : Nat := ks.foldr (fun s n => (if s.testBit q then 1 else 0) + n) 0
theorem cvN_app (a b : List Nat) (q : Nat) : cvN (a ++ b) q = cvN a q + cvN b q := by
  unfold cvN
  rw [List.foldr_append]
  induction a with
  | nil => simp
  | cons x a ih => simp only [List.foldr_cons, ih]; omega
theorem nuF_lt {b n c o m : Nat} (h : nuF b n c o n = some m) {q : Nat} (hq : q < n) (ho : o.testBit q = true) : dgB b n c q < m := by
  have hne : nuF b n c o (q + 1) ≠ none := fun z => by
    have := nuF_none_le z (show q + 1 ≤ n by omega)
    rw [h] at this; cases this
  obtain ⟨u, hu⟩ := Option.ne_none_iff_exists'.mp hne
  have hle : u ≤ m := nuF_mono (k := n - (q + 1)) hu (by rw [Nat.add_sub_cancel' (by omega)]; exact h)
  unfold nuF at hu
  cases hc : nuF b n c o q with
  | none => rw [hc] at hu; cases hu
  | some y =>
    rw [hc] at hu
    dsimp only at hu
    rw [if_pos ho] at hu
    split at hu
    · cases hu
    · cases hu
      split at hle <;> omega
theorem tb_sOB {b n c o s q : Nat} : (sOB b n c o s).testBit q = (decide (q < n) && (o.testBit q && decide (dgB b n c q = s))) := by
  unfold sOB; rw [tb_mkS]
theorem cv_cut {b n c o q : Nat} (hq : q < n) : ∀ m, cvN ((List.range m).map (sOB b n c o)) q = if o.testBit q = true ∧ dgB b n c q < m then 1 else 0
  | 0 => by simp [cvN]
  | m + 1 => by
    rw [List.range_succ, List.map_append, cvN_app, cv_cut hq m]
    simp only [List.map_cons, List.map_nil, cvN, List.foldr_cons, List.foldr_nil, tb_sOB, decide_eq_true hq, Bool.true_and]
    by_cases h1 : o.testBit q = true
    · by_cases h2 : dgB b n c q = m
      · rw [if_neg (by omega), if_pos (by simp [h1, h2]), if_pos ⟨h1, by omega⟩]
      · by_cases h3 : dgB b n c q < m
        · rw [if_pos ⟨h1, h3⟩, if_neg (by simp [h2]), if_pos ⟨h1, by omega⟩]
        · rw [if_neg (by omega), if_neg (by simp [h2]), if_neg (by omega)]
    · rw [if_neg (fun z => h1 z.1), if_neg (by simp [h1]), if_neg (fun z => h1 z.1)]
theorem tb_fold {f : Nat → Nat} {o q : Nat} : ∀ m, ((List.range m).foldl (fun o s => dif o (f s)) o).testBit q = (o.testBit q && decide (∀ s, s < m → (f s).testBit q = false))
  | 0 => by simp
  | m + 1 => by
    rw [List.range_succ, List.foldl_append]
    simp only [List.foldl_cons, List.foldl_nil]
    rw [tb_dif, tb_fold m, Bool.and_assoc]
    congr 1
    by_cases h1 : ∀ s, s < m → (f s).testBit q = false
    · rw [decide_eq_true h1, Bool.true_and]
      cases h2 : (f m).testBit q with
      | false =>
        rw [decide_eq_true]; rfl
        intro s hs
        rcases (show s < m ∨ s = m by omega) with z | z
        · exact h1 s z
        · rw [z]; exact h2
      | true =>
        rw [decide_eq_false]; rfl
        intro z; rw [z m (by omega)] at h2; cases h2
    · rw [decide_eq_false h1, decide_eq_false (fun z => h1 (fun s hs => z s (by omega))), Bool.false_and]
theorem fold_lt {f : Nat → Nat} {n o : Nat} (ho : o < 2 ^ n) : ∀ m, (List.range m).foldl (fun o s => dif o (f s)) o < 2 ^ n
  | 0 => ho
  | m + 1 => by
    rw [List.range_succ, List.foldl_append]
    exact dif_lt (fold_lt ho m)
theorem eq0_of {o n : Nat} (ho : o < 2 ^ n) (h : ∀ q, q < n → o.testBit q = false) : o = 0 := by
  apply Nat.eq_of_testBit_eq
  intro q
  rw [Nat.zero_testBit]
  by_cases hq : q < n
  · exact h q hq
  · exact Nat.testBit_lt_two_pow (Nat.lt_of_lt_of_le ho (Nat.pow_le_pow_right (by decide) (by omega)))
/-- each parish is open or in one seat kept; these are lawful; with all over, none is open -/
def GCV (L : LandT) (G : GamT) : Prop := (∀ s, s ∈ gKe G → faL L s = 0) ∧ (∀ q, q < L.1 → cvN (gKe G) q + (if (gOp G).testBit q then 1 else 0) = 1) ∧ (gPh G = 8 → gOp G = 0 ∧ gLe G = 0)
/-- how many moves may still come -/
def muG (L : LandT) (G : GamT) : Nat :=
  if gPh G = 0 then 2 * gLe G else if gPh G = 1 then 2 * gLe G - 1 else if gPh G = 2 then 1 else if gPh G = 3 then 2 else if gPh G = 4 then 1
  else if gPh G = 5 then (if (lsL L (gOp G) (gLe G)).length = 1 then 1 else 3) else if gPh G = 6 then 2 else if gPh G = 7 then 1 else 0
theorem mu_0 {L : LandT} {G : GamT} (q : gPh G = 0) : muG L G = 2 * gLe G := by unfold muG; rw [if_pos q]
theorem mu_1 {L : LandT} {G : GamT} (q : gPh G = 1) : muG L G = 2 * gLe G - 1 := by unfold muG; rw [if_neg (by omega), if_pos q]
theorem mu_2 {L : LandT} {G : GamT} (q : gPh G = 2) : muG L G = 1 := by unfold muG; rw [if_neg (by omega), if_neg (by omega), if_pos q]
theorem mu_3 {L : LandT} {G : GamT} (q : gPh G = 3) : muG L G = 2 := by unfold muG; rw [if_neg (by omega), if_neg (by omega), if_neg (by omega), if_pos q]
theorem mu_4 {L : LandT} {G : GamT} (q : gPh G = 4) : muG L G = 1 := by unfold muG; rw [if_neg (by omega), if_neg (by omega), if_neg (by omega), if_neg (by omega), if_pos q]
theorem mu_5 {L : LandT} {G : GamT} (q : gPh G = 5) : muG L G = if (lsL L (gOp G) (gLe G)).length = 1 then 1 else 3 := by unfold muG; rw [if_neg (by omega), if_neg (by omega), if_neg (by omega), if_neg (by omega), if_neg (by omega), if_pos q]
theorem mu_6 {L : LandT} {G : GamT} (q : gPh G = 6) : muG L G = 2 := by unfold muG; rw [if_neg (by omega), if_neg (by omega), if_neg (by omega), if_neg (by omega), if_neg (by omega), if_neg (by omega), if_pos q]
theorem mu_7 {L : LandT} {G : GamT} (q : gPh G = 7) : muG L G = 1 := by unfold muG; rw [if_neg (by omega), if_neg (by omega), if_neg (by omega), if_neg (by omega), if_neg (by omega), if_neg (by omega), if_neg (by omega), if_pos q]
theorem mu_8 {L : LandT} {G : GamT} (q : gPh G = 8) : muG L G = 0 := by unfold muG; rw [if_neg (by omega), if_neg (by omega), if_neg (by omega), if_neg (by omega), if_neg (by omega), if_neg (by omega), if_neg (by omega), if_neg (by omega)]
theorem wE_1 : ∀ r, r < 10 → wE 1 r 0 ≤ 1 := by decide +kernel
theorem lsL_1 {L : LandT} {o : Nat} (hn : L.1 ≤ 9) : (lsL L o 1).length ≤ 1 :=
  Nat.le_trans (List.length_filter_le _ _) (Nat.le_trans (enB_len _ _ _) (wE_1 _ (by omega)))
theorem mu_sr {L : LandT} {P : ProT} {o m t : Nat} (hn : L.1 ≤ 9) (hm : 1 ≤ m) (q : Nat × Nat × List Nat) (u : Nat) : muG L (srF L P o m t, o, m, u, q) ≤ 2 * m := by
  have h := srF_or L P o m t
  have h5 : srF L P o m t = 5 → (lsL L o m).length ≠ 0 := fun h5 z => by
    unfold srF at h5
    by_cases hd : P.2.2 t = 1
    · simp only [hd, if_true, show ¬ (1 : Nat) = 0 by decide, show ¬ (1 : Nat) = 3 by decide, if_false] at h5
      split at h5 <;> omega
    · simp only [if_neg hd, z, show decide ((0 : Nat) < 0) = false from rfl, Bool.false_eq_true, if_false] at h5
      omega
  unfold muG
  show (if srF L P o m t = 0 then 2 * m else if srF L P o m t = 1 then 2 * m - 1 else if srF L P o m t = 2 then 1 else if srF L P o m t = 3 then 2 else if srF L P o m t = 4 then 1 else if srF L P o m t = 5 then (if (lsL L o m).length = 1 then 1 else 3) else if srF L P o m t = 6 then 2 else if srF L P o m t = 7 then 1 else 0) ≤ 2 * m
  rcases h with h | h | h | h | h
  · rw [h]; simp
  · rw [h]; simp
  · rw [h]; simp; omega
  · rw [h]; simp; omega
  · have h5 := h5 h
    rw [h]
    simp only [show ¬ 5 = 0 by decide, show ¬ 5 = 1 by decide, show ¬ 5 = 2 by decide, show ¬ 5 = 3 by decide, show ¬ 5 = 4 by decide, if_false, if_true]
    by_cases h1 : m = 1
    · subst h1
      have := lsL_1 (L := L) (o := o) hn
      rw [if_pos (by omega)]; omega
    · split <;> omega
theorem kpG_ok {L : LandT} {P : ProT} {G : GamT} {c : Nat} (hK : GOK L P G) (hV : GCV L G) (hic : icN L c (gOp G) (gLe G)) : GOK L P (kpG L G c) ∧ GCV L (kpG L G c) := by
  obtain ⟨k1, k2, k3, k4, k5, k6, k7, k8, k9, k10, k11⟩ := hK
  obtain ⟨v1, v2, v3⟩ := hV
  refine ⟨⟨by show 8 ≤ 9; decide, fold_lt k2 _, ?_, k4, k5, k6, fun s hs => ?_, fun z => absurd z (show ¬ 8 < 8 by decide), fun z => absurd z (show ¬ (8 = 1 ∨ 8 = 6 ∨ 8 = 7) by decide), fun z => absurd z (show ¬ 8 = 7 by decide), fun z => absurd z (show ¬ 8 = 4 by decide)⟩, fun s hs => ?_, fun q hq => ?_, fun _ => ⟨?_, rfl⟩⟩
  · show 0 + (gKe G ++ (List.range (gLe G)).map (sOB 2 L.1 c (gOp G))).length = L.2.1
    rw [List.length_append, List.length_map, List.length_range]; omega
  · rcases List.mem_append.mp hs with h | h
    · exact k7 s h
    · obtain ⟨j, hj, rfl⟩ := List.mem_map.mp h
      exact ⟨sOB_lt _ _ _ _ _, nuF_pos hic.1 (List.mem_range.mp hj)⟩
  · rcases List.mem_append.mp hs with h | h
    · exact v1 s h
    · obtain ⟨j, hj, rfl⟩ := List.mem_map.mp h
      exact hic.2 j (List.mem_range.mp hj)
  · show cvN (gKe G ++ (List.range (gLe G)).map (sOB 2 L.1 c (gOp G))) q + (if ((List.range (gLe G)).foldl (fun o s => dif o (sOB 2 L.1 c (gOp G) s)) (gOp G)).testBit q then 1 else 0) = 1
    have h2 := v2 q hq
    rw [cvN_app, cv_cut hq, tb_fold]
    by_cases ho : (gOp G).testBit q = true
    · have hd := nuF_lt hic.1 hq ho
      rw [if_pos ho] at h2
      rw [if_pos ⟨ho, hd⟩, if_neg]
      · omega
      · simp only [Bool.and_eq_true, decide_eq_true_eq, not_and]
        intro _ hall
        have := hall _ hd
        rw [tb_sOB, decide_eq_true hq, ho, decide_eq_true rfl] at this
        cases this
    · rw [if_neg ho] at h2
      rw [if_neg (fun z => ho z.1), if_neg (by simp [ho])]
      omega
  · refine eq0_of (n := L.1) (fold_lt k2 _) (fun q hq => ?_)
    show ((List.range (gLe G)).foldl (fun o s => dif o (sOB 2 L.1 c (gOp G) s)) (gOp G)).testBit q = false
    rw [tb_fold]
    by_cases ho : (gOp G).testBit q = true
    · have hd := nuF_lt hic.1 hq ho
      rw [decide_eq_false (fun z => by
        have := z _ hd
        rw [tb_sOB, decide_eq_true hq, ho, decide_eq_true rfl] at this
        cases this), Bool.and_false]
    · have ho : (gOp G).testBit q = false := by simpa using ho
      rw [ho, Bool.false_and]
theorem kpG_mu {L : LandT} {G : GamT} {c : Nat} : muG L (kpG L G c) = 0 := rfl
theorem mvG_ok {L : LandT} {P : ProT} {G : GamT} {x : Nat} (hL : LdOK L) (hO : ProOK P) (hK : GOK L P G) (hV : GCV L G) (h8 : gPh G < 8) (hx : x < 2 ^ 31) (hm : mmB L G (nI x) = true) : GOK L P (mvG L P G x) ∧ GCV L (mvG L P G x) ∧ muG L (mvG L P G x) < muG L G := by
  have hn := hL.1.2
  have h4 := p4 hn
  have h8n := p8 hn
  have hs4 := hL.2.1.2.1
  have hK0 := hK
  have hV0 := hV
  obtain ⟨k1, k2, k3, k4, k5, k6, k7, k8, k9, k10, k11⟩ := hK
  obtain ⟨v1, v2, v3⟩ := hV
  obtain ⟨hle, htu⟩ := k8 h8
  have icx : icB L (nI x) (gOp G) (gLe G) = true → icN L x (gOp G) (gLe G) ∧ x < 4 ^ L.1 := fun h => by
    obtain ⟨c, c1, c2, c3, -⟩ := icB_some hn h
    have : x = c := (na_eq hx (by omega)).mp c1
    subst this
    exact ⟨c3, c2⟩
  have vn : ∀ (ph : Nat) (r : Nat × Nat), ph < 8 → GCV L (ph, gOp G, gLe G, gTu G, r.1, r.2, gKe G) := fun ph r hph => ⟨v1, v2, fun z => by
    have z : ph = 8 := z
    omega⟩
  unfold mmB at hm
  rcases (show gPh G = 0 ∨ gPh G = 1 ∨ gPh G = 2 ∨ gPh G = 3 ∨ gPh G = 4 ∨ gPh G = 5 ∨ gPh G = 6 ∨ gPh G = 7 by omega) with q | q | q | q | q | q | q | q
  · rw [if_pos (by omega)] at hm
    obtain ⟨i1, i2⟩ := icx hm
    have e : mvG L P G x = (1, gOp G, gLe G, gTu G, x, gSe G, gKe G) := by unfold mvG; rw [if_pos q]
    rw [e]
    refine ⟨⟨by show 1 ≤ 9; decide, k2, k3, k4, hx, k6, k7, fun _ => ⟨hle, htu⟩, fun _ => ⟨i1, i2⟩, fun z => absurd z (show ¬ 1 = 7 by decide), fun z => absurd z (show ¬ 1 = 4 by decide)⟩, vn 1 (x, gSe G) (by omega), ?_⟩
    rw [mu_0 q, mu_1 (G := (1, gOp G, gLe G, gTu G, x, gSe G, gKe G)) rfl]
    show 2 * gLe G - 1 < 2 * gLe G
    omega
  · rw [if_neg (by omega), if_pos q] at hm
    obtain ⟨j, hj⟩ := Option.isSome_iff_exists.mp hm
    obtain ⟨j1, j2⟩ := inN_some (by omega) hj
    obtain rfl : x = j := (na_eq hx (by omega)).mp j1
    obtain ⟨c1, c2⟩ := k9 (by omega)
    have e : mvG L P G x = (if gLe G - 1 = 0 then 8 else srF L P (dif (gOp G) (sOB 2 L.1 (gDr G) (gOp G) x)) (gLe G - 1) ((gTu G + 1) % P.1), dif (gOp G) (sOB 2 L.1 (gDr G) (gOp G) x), gLe G - 1, (gTu G + 1) % P.1, gDr G, gSe G, gKe G ++ [sOB 2 L.1 (gDr G) (gOp G) x]) := by unfold mvG; rw [if_neg (by omega), if_pos q]
    rw [e]
    have hsr := srF_or L P (dif (gOp G) (sOB 2 L.1 (gDr G) (gOp G) x)) (gLe G - 1) ((gTu G + 1) % P.1)
    have hP1 := hO.1
    have hmod := Nat.mod_lt (gTu G + 1) (show 0 < P.1 by omega)
    have hph : ∀ k, (if gLe G - 1 = 0 then 8 else srF L P (dif (gOp G) (sOB 2 L.1 (gDr G) (gOp G) x)) (gLe G - 1) ((gTu G + 1) % P.1)) = k → k = 8 ∨ k = 9 ∨ k = 0 ∨ k = 2 ∨ k = 3 ∨ k = 5 := fun k hk => by
      split at hk <;> omega
    refine ⟨⟨?_, dif_lt k2, ?_, hmod, k5, k6, fun s hs => ?_, fun z => ?_, fun z => ?_, fun z => ?_, fun z => ?_⟩, ⟨fun s hs => ?_, fun p hp => ?_, fun z => ?_⟩, ?_⟩
    · have := hph _ rfl
      show (if gLe G - 1 = 0 then 8 else _) ≤ 9
      omega
    · show gLe G - 1 + (gKe G ++ [sOB 2 L.1 (gDr G) (gOp G) x]).length = L.2.1
      rw [List.length_append]; simp; omega
    · rcases List.mem_append.mp hs with h | h
      · exact k7 s h
      · simp at h; subst h
        exact ⟨sOB_lt _ _ _ _ _, nuF_pos c1.1 j2⟩
    · have z : (if gLe G - 1 = 0 then 8 else srF L P (dif (gOp G) (sOB 2 L.1 (gDr G) (gOp G) x)) (gLe G - 1) ((gTu G + 1) % P.1)) < 8 := z
      by_cases w : gLe G - 1 = 0
      · rw [if_pos w] at z; omega
      · refine ⟨by show 1 ≤ gLe G - 1; omega, ?_⟩
        show (gTu G + 1) % P.1 = (gKe G ++ [sOB 2 L.1 (gDr G) (gOp G) x]).length % P.1
        rw [List.length_append, htu]
        simp
    · have := hph _ rfl
      have z : (if gLe G - 1 = 0 then 8 else srF L P (dif (gOp G) (sOB 2 L.1 (gDr G) (gOp G) x)) (gLe G - 1) ((gTu G + 1) % P.1)) = 1 ∨ (if gLe G - 1 = 0 then 8 else srF L P (dif (gOp G) (sOB 2 L.1 (gDr G) (gOp G) x)) (gLe G - 1) ((gTu G + 1) % P.1)) = 6 ∨ (if gLe G - 1 = 0 then 8 else srF L P (dif (gOp G) (sOB 2 L.1 (gDr G) (gOp G) x)) (gLe G - 1) ((gTu G + 1) % P.1)) = 7 := z
      omega
    · have := hph _ rfl
      have z : (if gLe G - 1 = 0 then 8 else srF L P (dif (gOp G) (sOB 2 L.1 (gDr G) (gOp G) x)) (gLe G - 1) ((gTu G + 1) % P.1)) = 7 := z
      omega
    · have := hph _ rfl
      have z : (if gLe G - 1 = 0 then 8 else srF L P (dif (gOp G) (sOB 2 L.1 (gDr G) (gOp G) x)) (gLe G - 1) ((gTu G + 1) % P.1)) = 4 := z
      omega
    · rcases List.mem_append.mp hs with h | h
      · exact v1 s h
      · simp at h; subst h
        exact c1.2 x j2
    · show cvN (gKe G ++ [sOB 2 L.1 (gDr G) (gOp G) x]) p + (if (dif (gOp G) (sOB 2 L.1 (gDr G) (gOp G) x)).testBit p then 1 else 0) = 1
      have h2 := v2 p hp
      rw [cvN_app, tb_dif]
      simp only [cvN, List.foldr_cons, List.foldr_nil, tb_sOB, decide_eq_true hp, Bool.true_and]
      have h2 : List.foldr (fun s n => (if s.testBit p = true then 1 else 0) + n) 0 (gKe G) + (if (gOp G).testBit p then 1 else 0) = 1 := h2
      cases ho : (gOp G).testBit p with
      | false => rw [ho] at h2; simpa using h2
      | true =>
        rw [ho] at h2
        by_cases hd : dgB 2 L.1 (gDr G) p = x
        · simpa [hd] using h2
        · simpa [hd] using h2
    · have z : (if gLe G - 1 = 0 then 8 else srF L P (dif (gOp G) (sOB 2 L.1 (gDr G) (gOp G) x)) (gLe G - 1) ((gTu G + 1) % P.1)) = 8 := z
      have hl0 : gLe G - 1 = 0 := by
        by_cases w : gLe G - 1 = 0
        · exact w
        · rw [if_neg w] at z; omega
      have hx0 : x = 0 := by omega
      refine ⟨?_, hl0⟩
      show dif (gOp G) (sOB 2 L.1 (gDr G) (gOp G) x) = 0
      refine eq0_of (n := L.1) (dif_lt k2) (fun p hp => ?_)
      rw [tb_dif, tb_sOB, decide_eq_true hp, Bool.true_and]
      cases ho : (gOp G).testBit p with
      | false => rfl
      | true =>
        have := nuF_lt c1.1 hp ho
        rw [decide_eq_true (show dgB 2 L.1 (gDr G) p = x by omega)]; rfl
    · rw [mu_1 q]
      by_cases w : gLe G - 1 = 0
      · rw [if_pos w, mu_8 (G := (8, dif (gOp G) (sOB 2 L.1 (gDr G) (gOp G) x), gLe G - 1, (gTu G + 1) % P.1, gDr G, gSe G, gKe G ++ [sOB 2 L.1 (gDr G) (gOp G) x])) rfl]
        omega
      · rw [if_neg w]
        have := mu_sr (L := L) (P := P) (o := dif (gOp G) (sOB 2 L.1 (gDr G) (gOp G) x)) (m := gLe G - 1) (t := (gTu G + 1) % P.1) hn (by omega) (gDr G, gSe G, gKe G ++ [sOB 2 L.1 (gDr G) (gOp G) x]) ((gTu G + 1) % P.1)
        have e9 : ∀ a : Nat, a ≤ 2 * (gLe G - 1) → a < 2 * gLe G - 1 := fun a h1 => by omega
        exact e9 _ this
  · rw [if_pos (by omega)] at hm
    obtain ⟨i1, i2⟩ := icx hm
    have e : mvG L P G x = kpG L G x := by unfold mvG; rw [if_neg (by omega), if_neg (by omega), if_neg (by omega), if_neg (by omega), if_neg (by omega), if_neg (by omega)]
    rw [e]
    obtain ⟨a, b⟩ := kpG_ok hK0 hV0 i1
    refine ⟨a, b, ?_⟩
    rw [kpG_mu, mu_2 q]; decide
  · rw [if_neg (by omega), if_neg (by omega), if_pos q] at hm
    have e : mvG L P G x = (4, gOp G, gLe G, gTu G, x, gSe G, gKe G) := by unfold mvG; rw [if_neg (by omega), if_neg (by omega), if_pos q]
    rw [e]
    refine ⟨⟨by show 4 ≤ 9; decide, k2, k3, k4, hx, k6, k7, fun _ => ⟨hle, htu⟩, fun z => absurd z (show ¬ (4 = 1 ∨ 4 = 6 ∨ 4 = 7) by decide), fun z => absurd z (show ¬ 4 = 7 by decide), fun _ => hm⟩, vn 4 (x, gSe G) (by omega), ?_⟩
    rw [mu_3 q, mu_4 (G := (4, gOp G, gLe G, gTu G, x, gSe G, gKe G)) rfl]; decide
  · rw [if_neg (by omega), if_neg (by omega), if_neg (by omega), if_pos q] at hm
    simp only [Bool.and_eq_true] at hm
    obtain ⟨i1, i2⟩ := icx hm.1
    have e : mvG L P G x = kpG L G x := by unfold mvG; rw [if_neg (by omega), if_neg (by omega), if_neg (by omega), if_neg (by omega), if_neg (by omega), if_neg (by omega)]
    rw [e]
    obtain ⟨a, b⟩ := kpG_ok hK0 hV0 i1
    refine ⟨a, b, ?_⟩
    rw [kpG_mu, mu_4 q]; decide
  · rw [if_neg (by omega), if_neg (by omega), if_neg (by omega), if_neg (by omega), if_pos q] at hm
    simp only [Bool.and_eq_true] at hm
    obtain ⟨i1, i2⟩ := icx hm.1
    have e : mvG L P G x = (if (lsL L (gOp G) (gLe G)).length = 1 then kpG L (gPh G, gOp G, gLe G, gTu G, x, gSe G, gKe G) x else (6, gOp G, gLe G, gTu G, x, gSe G, gKe G)) := by unfold mvG; rw [if_neg (by omega), if_neg (by omega), if_neg (by omega), if_pos q]
    rw [e]
    have emu := mu_5 (L := L) q
    rw [emu]
    by_cases w : (lsL L (gOp G) (gLe G)).length = 1
    · rw [if_pos w, if_pos w]
      have hK' : GOK L P (gPh G, gOp G, gLe G, gTu G, x, gSe G, gKe G) := ⟨k1, k2, k3, k4, hx, k6, k7, fun _ => ⟨hle, htu⟩, fun z => by
        have z : gPh G = 1 ∨ gPh G = 6 ∨ gPh G = 7 := z
        omega, fun z => by
        have z : gPh G = 7 := z
        omega, fun z => by
        have z : gPh G = 4 := z
        omega⟩
      have hV' : GCV L (gPh G, gOp G, gLe G, gTu G, x, gSe G, gKe G) := vn (gPh G) (x, gSe G) h8
      obtain ⟨a, b⟩ := kpG_ok hK' hV' i1
      exact ⟨a, b, by rw [kpG_mu]; decide⟩
    · rw [if_neg w, if_neg w]
      exact ⟨⟨by show 6 ≤ 9; decide, k2, k3, k4, hx, k6, k7, fun _ => ⟨hle, htu⟩, fun _ => ⟨i1, i2⟩, fun z => absurd z (show ¬ 6 = 7 by decide), fun z => absurd z (show ¬ 6 = 4 by decide)⟩, vn 6 (x, gSe G) (by omega), by rw [mu_6 (G := (6, gOp G, gLe G, gTu G, x, gSe G, gKe G)) rfl]; decide⟩
  · rw [if_neg (by omega), if_neg (by omega), if_neg (by omega), if_neg (by omega), if_neg (by omega), if_pos q] at hm
    simp only [Bool.and_eq_true] at hm
    obtain ⟨i1, i2⟩ := icx hm.1
    obtain ⟨c1, c2⟩ := k9 (by omega)
    have e : mvG L P G x = (7, gOp G, gLe G, gTu G, gDr G, x, gKe G) := by unfold mvG; rw [if_neg (by omega), if_neg (by omega), if_neg (by omega), if_neg (by omega), if_pos q]
    rw [e]
    refine ⟨⟨by show 7 ≤ 9; decide, k2, k3, k4, k5, hx, k7, fun _ => ⟨hle, htu⟩, fun _ => ⟨c1, c2⟩, fun _ => ⟨i1, i2⟩, fun z => absurd z (show ¬ 7 = 4 by decide)⟩, vn 7 (gDr G, x) (by omega), ?_⟩
    rw [mu_6 q, mu_7 (G := (7, gOp G, gLe G, gTu G, gDr G, x, gKe G)) rfl]; decide
  · obtain ⟨c1, c2⟩ := k9 (by omega)
    obtain ⟨c3, c4⟩ := k10 q
    have e : mvG L P G x = kpG L G (if x = 0 then gDr G else gSe G) := by unfold mvG; rw [if_neg (by omega), if_neg (by omega), if_neg (by omega), if_neg (by omega), if_neg (by omega), if_pos q]
    rw [e]
    obtain ⟨a, b⟩ := kpG_ok (c := if x = 0 then gDr G else gSe G) hK0 hV0 (by split <;> assumption)
    refine ⟨a, b, ?_⟩
    rw [kpG_mu, mu_7 q]; decide
theorem stG_ok {L : LandT} {P : ProT} (hL : LdOK L) (hO : ProOK P) : GOK L P (stG L P) ∧ GCV L (stG L P) ∧ muG L (stG L P) ≤ 2 * L.2.1 := by
  have hsr := srF_or L P (whL L) L.2.1 0
  have hs := hL.2.1
  have hP1 := hO.1
  have hph : gPh (stG L P) = srF L P (whL L) L.2.1 0 := rfl
  refine ⟨⟨by omega, whL_lt L, by show L.2.1 + 0 = L.2.1; omega, by show 0 < P.1; omega, by show 0 < 2 ^ 31; decide, by show 0 < 2 ^ 31; decide, fun s hs => (by cases hs), fun _ => ⟨hs.1, (by show 0 = 0 % P.1; simp)⟩, fun z => by omega, fun z => by omega, fun z => by omega⟩, ⟨fun s hs => (by cases hs), fun q hq => ?_, fun z => by omega⟩, mu_sr hL.1.2 hs.1 _ _⟩
  show 0 + (if (whL L).testBit q then 1 else 0) = 1
  unfold whL
  rw [Nat.testBit_two_pow_sub_one, decide_eq_true hq]; rfl
/-- the game after moves -/
def plG (L : LandT) (P : ProT) (mv : List Nat) : GamT := mv.foldl (mvG L P) (stG L P)
/-- all moves were ones that may be made -/
def lgM (L : LandT) (P : ProT) (mv : List Nat) : Prop := ∀ k x, mv[k]? = some x → mmB L (plG L P (mv.take k)) (nI x) = true ∧ x < 2 ^ 31
theorem plG_snoc (L : LandT) (P : ProT) (mv : List Nat) (x : Nat) : plG L P (mv ++ [x]) = mvG L P (plG L P mv) x := by unfold plG; rw [List.foldl_append]; rfl
theorem lgM_take {L : LandT} {P : ProT} {mv : List Nat} (h : lgM L P mv) (k : Nat) : lgM L P (mv.take k) := by
  intro j x hj
  have hjl := (List.getElem?_eq_some_iff.mp hj).1
  rw [List.length_take] at hjl
  rw [List.getElem?_take, if_pos (by omega)] at hj
  have := h j x hj
  rw [List.take_take, Nat.min_eq_left (by omega)]
  exact this
theorem mm_8 {L : LandT} {G : GamT} {x : Int32} (h : mmB L G x = true) : gPh G < 8 := by
  unfold mmB at h
  rcases Nat.lt_or_ge (gPh G) 8 with q | q
  · exact q
  · rw [if_neg (by omega), if_neg (by omega), if_neg (by omega), if_neg (by omega), if_neg (by omega), if_neg (by omega), if_neg (by omega)] at h
    cases h
theorem pl_ok {L : LandT} {P : ProT} (hL : LdOK L) (hO : ProOK P) : ∀ (n : Nat) (mv : List Nat), mv.length = n → lgM L P mv → GOK L P (plG L P mv) ∧ GCV L (plG L P mv) ∧ mv.length + muG L (plG L P mv) ≤ 2 * L.2.1
  | 0, mv, hn, h => by
    obtain rfl := List.eq_nil_of_length_eq_zero hn
    obtain ⟨a, b, c⟩ := stG_ok hL hO
    exact ⟨a, b, by show 0 + muG L (stG L P) ≤ _; omega⟩
  | n + 1, mv, hn, h => by
    have hne : mv ≠ [] := fun z => by rw [z] at hn; cases hn
    have hcat := List.dropLast_concat_getLast hne
    generalize hx : mv.getLast hne = x at hcat
    have hdl : mv.dropLast.length = n := by rw [List.length_dropLast, hn]; rfl
    have htk : mv.take n = mv.dropLast := by
      rw [List.dropLast_eq_take, hn]; rfl
    have hg := lgM_take h n
    rw [htk] at hg
    obtain ⟨a, b, c⟩ := pl_ok hL hO n mv.dropLast hdl hg
    have hxk : mv[n]? = some x := by
      rw [← hcat, List.getElem?_append_right (by omega), hdl]; simp
    obtain ⟨m1, m2⟩ := h n x hxk
    rw [htk] at m1
    obtain ⟨a2, b2, c2⟩ := mvG_ok hL hO a b (mm_8 m1) m2 m1
    rw [← hcat, plG_snoc]
    refine ⟨a2, b2, ?_⟩
    rw [List.length_append]; simp only [List.length_cons, List.length_nil]; omega
