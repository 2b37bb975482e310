/-! THERE IS ALWAYS A BEST MOVE -/
def GNE (L : LandT) (G : GamT) : Prop := ((gPh G = 0 ∨ gPh G = 2 ∨ gPh G = 5) → lsL L (gOp G) (gLe G) ≠ []) ∧ (gPh G = 3 → (hvF L 0 false false (gOp G) (gLe G)).isSome = true) ∧ (gPh G = 6 → ∃ c, c ∈ lsL L (gOp G) (gLe G) ∧ gDr G < c)
theorem GNE_no {L : LandT} {G : GamT} (h : gPh G = 1 ∨ gPh G = 4 ∨ 7 ≤ gPh G) : GNE L G := ⟨fun q => by omega, fun q => by omega, fun q => by omega⟩
theorem GNE_sr {L : LandT} {P : ProT} {o m t : Nat} (u : Nat) (r : Nat × Nat × List Nat) : GNE L (srF L P o m t, o, m, u, r) := by
  have key : ∀ k, srF L P o m t = k → k ≠ 9 → (if P.2.2 t = 1 then (hvF L 0 false false o m).isSome else decide (0 < (lsL L o m).length)) = true ∧ (if P.2.2 t = 0 then 0 else if P.2.2 t = 3 then 2 else if P.2.2 t = 1 then 3 else 5) = k := fun k hk h9 => by
    unfold srF at hk
    generalize (if P.2.2 t = 1 then (hvF L 0 false false o m).isSome else decide (0 < (lsL L o m).length)) = q at hk
    cases q with
    | false => exact absurd hk.symm h9
    | true => exact ⟨rfl, by rw [if_pos rfl] at hk; exact hk⟩
  refine ⟨fun q => ?_, fun q => ?_, fun q => ?_⟩
  · have q : srF L P o m t = 0 ∨ srF L P o m t = 2 ∨ srF L P o m t = 5 := q
    obtain ⟨h1, h2⟩ := key _ rfl (by omega)
    have hd : P.2.2 t ≠ 1 := fun z => by rw [if_neg (by omega), if_neg (by omega), if_pos z] at h2; omega
    rw [if_neg hd] at h1
    have := of_decide_eq_true h1
    intro z
    have z : lsL L o m = [] := z
    rw [z] at this; simp at this
  · have q : srF L P o m t = 3 := q
    obtain ⟨h1, h2⟩ := key _ q (by omega)
    have hd : P.2.2 t = 1 := by
      by_cases z0 : P.2.2 t = 0
      · rw [if_pos z0] at h2; omega
      · rw [if_neg z0] at h2
        by_cases z3 : P.2.2 t = 3
        · rw [if_pos z3] at h2; omega
        · rw [if_neg z3] at h2
          by_cases z1 : P.2.2 t = 1
          · exact z1
          · rw [if_neg z1] at h2; omega
    rw [if_pos hd] at h1
    exact h1
  · have q : srF L P o m t = 6 := q
    have := srF_or L P o m t
    omega
theorem mvG_ne {L : LandT} {P : ProT} {G : GamT} {x : Nat} (hL : LdOK L) (hK : GOK L P G) (h8 : gPh G < 8) (hx : x < 2 ^ 31) (hm : mmB L G (nI x) = true) : GNE L (mvG L P G x) := by
  have hn := hL.1.2
  have h4 := p4 hn
  have k3 := hK.2.2.1
  have hs4 := hL.2.1.2.1
  rcases (show gPh G = 0 ∨ gPh G = 1 ∨ gPh G = 2 ∨ gPh G = 3 ∨ gPh G = 4 ∨ gPh G = 5 ∨ gPh G = 6 ∨ gPh G = 7 by omega) with q | q | q | q | q | q | q | q
  · have e : mvG L P G x = (1, gOp G, gLe G, gTu G, x, gSe G, gKe G) := by unfold mvG; rw [if_pos q]
    rw [e]; exact GNE_no (Or.inl rfl)
  · have e : mvG L P G x = (if gLe G - 1 = 0 then 8 else srF L P (dif (gOp G) (sOB 2 L.1 (gDr G) (gOp G) x)) (gLe G - 1) ((gTu G + 1) % P.1), dif (gOp G) (sOB 2 L.1 (gDr G) (gOp G) x), gLe G - 1, (gTu G + 1) % P.1, gDr G, gSe G, gKe G ++ [sOB 2 L.1 (gDr G) (gOp G) x]) := by unfold mvG; rw [if_neg (by omega), if_pos q]
    rw [e]
    by_cases w : gLe G - 1 = 0
    · rw [if_pos w]; exact GNE_no (Or.inr (Or.inr (by show 7 ≤ 8; decide)))
    · rw [if_neg w]; exact GNE_sr _ _
  · have e : mvG L P G x = kpG L G x := by unfold mvG; rw [if_neg (by omega), if_neg (by omega), if_neg (by omega), if_neg (by omega), if_neg (by omega), if_neg (by omega)]
    rw [e]; exact GNE_no (Or.inr (Or.inr (by show 7 ≤ 8; decide)))
  · have e : mvG L P G x = (4, gOp G, gLe G, gTu G, x, gSe G, gKe G) := by unfold mvG; rw [if_neg (by omega), if_neg (by omega), if_pos q]
    rw [e]; exact GNE_no (Or.inr (Or.inl rfl))
  · have e : mvG L P G x = kpG L G x := by unfold mvG; rw [if_neg (by omega), if_neg (by omega), if_neg (by omega), if_neg (by omega), if_neg (by omega), if_neg (by omega)]
    rw [e]; exact GNE_no (Or.inr (Or.inr (by show 7 ≤ 8; decide)))
  · have e : mvG L P G x = (if (lsL L (gOp G) (gLe G)).length = 1 then kpG L (gPh G, gOp G, gLe G, gTu G, x, gSe G, gKe G) x else (6, gOp G, gLe G, gTu G, x, gSe G, gKe G)) := by unfold mvG; rw [if_neg (by omega), if_neg (by omega), if_neg (by omega), if_pos q]
    rw [e]
    unfold mmB at hm
    rw [if_neg (by omega), if_neg (by omega), if_neg (by omega), if_neg (by omega), if_pos q] at hm
    simp only [Bool.and_eq_true, Bool.or_eq_true, decide_eq_true_eq] at hm
    obtain ⟨hi, hl⟩ := hm
    obtain ⟨c, c1, c2, c3, -⟩ := icB_some hn hi
    obtain rfl : x = c := (na_eq hx (by omega)).mp c1
    have hxx : (nI x).toInt.toNat = x := by rw [nI_toInt (by omega)]; rfl
    rw [hxx] at hl
    by_cases w : (lsL L (gOp G) (gLe G)).length = 1
    · rw [if_pos w]; exact GNE_no (Or.inr (Or.inr (by show 7 ≤ 8; decide)))
    · rw [if_neg w]
      have hmem := lsL_all c2 c3
      have hpos := List.length_pos_of_mem hmem
      have hle := pw_last (lsL_pw (L := L) (o := gOp G) (m := gLe G) (by omega)) hmem
      refine ⟨fun z => by have z : (6 : Nat) = 0 ∨ 6 = 2 ∨ 6 = 5 := z; omega, fun z => by have z : (6 : Nat) = 3 := z; omega, fun _ => ⟨(lsL L (gOp G) (gLe G)).getD ((lsL L (gOp G) (gLe G)).length - 1) 0, ?_, ?_⟩⟩
      · have : (lsL L (gOp G) (gLe G))[(lsL L (gOp G) (gLe G)).length - 1]? = some ((lsL L (gOp G) (gLe G)).getD ((lsL L (gOp G) (gLe G)).length - 1) 0) := by
          simp only [List.getD]
          rw [List.getElem?_eq_getElem (by omega)]; rfl
        exact List.mem_of_getElem? this
      · show x < _
        rcases hl with z | z
        · omega
        · exact absurd z w
  · have e : mvG L P G x = (7, gOp G, gLe G, gTu G, gDr G, x, gKe G) := by unfold mvG; rw [if_neg (by omega), if_neg (by omega), if_neg (by omega), if_neg (by omega), if_pos q]
    rw [e]; exact GNE_no (Or.inr (Or.inr (by show 7 ≤ 7; decide)))
  · have e : mvG L P G x = kpG L G (if x = 0 then gDr G else gSe G) := by unfold mvG; rw [if_neg (by omega), if_neg (by omega), if_neg (by omega), if_neg (by omega), if_neg (by omega), if_pos q]
    rw [e]; exact GNE_no (Or.inr (Or.inr (by show 7 ≤ 8; decide)))
theorem hvT_some {L : LandT} {g : Nat} {sm sk : Bool} {o m : Nat} (st : Option (Int × Nat)) (c : Nat) : (hvT L g sm sk o m st c).isSome = (st.isSome || okH L o m c) := by
  unfold hvT
  cases hok : okH L o m c with
  | false => simp
  | true =>
    rw [if_pos rfl]
    cases sk with
    | false => cases st <;> simp
    | true =>
      cases st with
      | none => simp
      | some q =>
        simp only [if_true, Option.isSome_some, Bool.true_or]
        by_cases hc : (if sm = true then q.1 < (pvB L (sOB 3 L.1 c o) m g (!sm) 5 0).getD 0 else (pvB L (sOB 3 L.1 c o) m g (!sm) 5 0).getD 0 < q.1)
        · rw [if_pos hc]; rfl
        · rw [if_neg hc]; rfl
theorem hvF_some {L : LandT} {g : Nat} {sm sk : Bool} {o m : Nat} : (hvF L g sm sk o m).isSome = (enB 3 L.1 o (2 * m) L.1 0 0).any (okH L o (2 * m)) := by
  have key : ∀ (xs : List Nat) (st : Option (Int × Nat)), (xs.foldl (hvT L g sm sk o (2 * m)) st).isSome = (st.isSome || xs.any (okH L o (2 * m))) := by
    intro xs
    induction xs with
    | nil => intro st; simp
    | cons c xs ih => intro st; rw [List.foldl_cons, ih, hvT_some, List.any_cons, Bool.or_assoc]
  unfold hvF
  rw [key]; rfl
theorem ofT_some (gr : Bool) (b : Option (Int × Nat)) (n : Nat) (v : Int) : (ofT gr b n v).isSome = true := by
  unfold ofT
  cases b with
  | none => rfl
  | some q =>
    dsimp only
    by_cases hc : (if gr = true then q.1 < v else v < q.1)
    · rw [if_pos hc]; rfl
    · rw [if_neg hc]; rfl
theorem fld_some {gr : Bool} {f : Nat → Int} : ∀ j s (b : Option (Int × Nat)), (0 < j ∨ b.isSome = true) → (fldR (fun acc s => ofT gr acc s (f s)) j s b).isSome = true
  | 0, s, b, h => h.resolve_left (by omega)
  | j + 1, s, b, h => fld_some j (s + 1) _ (Or.inr (ofT_some _ _ _ _))
theorem prT_some (gr : Bool) (W : Nat → Int) (c : Nat) (q : Option (Int × Nat) × Int) : (prT gr W c q).1.isSome = true := by
  obtain ⟨a, b⟩ := q
  unfold prT
  cases a with
  | none => rfl
  | some y =>
    dsimp only
    by_cases hc : (if gr = true then y.1 ≤ opI gr (W c) b else opI gr (W c) b ≤ y.1)
    · rw [if_pos hc]; rfl
    · rw [if_neg hc]; rfl
theorem prF_some {gr : Bool} {W : Nat → Int} {ys : List Nat} (h : ys ≠ []) : (prF gr W ys).isSome = true := by
  unfold prF
  cases hd : ys.dropLast with
  | nil =>
    have hl : ys.length = 1 := by
      have h1 := congrArg List.length hd
      rw [List.length_dropLast] at h1
      have h2 := List.length_pos_iff.mpr h
      simp only [List.length_nil] at h1; omega
    rw [List.foldr_nil, if_pos hl]; rfl
  | cons c zs => rw [List.foldr_cons]; exact prT_some _ _ _ _
theorem prF_dl {gr : Bool} {W : Nat → Int} {ys : List Nat} {K : Nat → Prop} (hl : ys.length ≠ 1) (hk : ∀ c, c ∈ ys.dropLast → K c) : ∀ q, prF gr W ys = some q → K q.2 := by
  have key : ∀ (zs : List Nat) (st : Option (Int × Nat) × Int), (∀ c, c ∈ zs → K c) → (∀ q, st.1 = some q → K q.2) → ∀ q, (zs.foldr (prT gr W) st).1 = some q → K q.2 := by
    intro zs
    induction zs with
    | nil => intro st _ h q hq; exact h q hq
    | cons c zs ih =>
      intro st hz h q hq
      rw [List.foldr_cons] at hq
      have hi := ih st (fun x hx => hz x (List.mem_cons_of_mem _ hx)) h
      generalize zs.foldr (prT gr W) st = r at hq hi
      obtain ⟨r1, r2⟩ := r
      unfold prT at hq
      cases r1 with
      | none => cases hq; exact hz c (List.mem_cons_self ..)
      | some b =>
        dsimp only at hq
        by_cases hc : (if gr = true then b.1 ≤ opI gr (W c) r2 else opI gr (W c) r2 ≤ b.1)
        · rw [if_pos hc] at hq; cases hq; exact hz c (List.mem_cons_self ..)
        · rw [if_neg hc] at hq; exact hi q hq
  unfold prF
  exact key _ _ hk (fun q hq => by rw [if_neg hl] at hq; cases hq)
theorem sc_some {L : LandT} {P : ProT} {g : Nat} {ot : Bool} {G : GamT} {gr : Bool} : ∀ (xs : List Nat) (b : Option (Int × Nat)), (b.isSome = true ∨ ∃ c, c ∈ xs ∧ (gPh G = 0 ∨ gPh G = 2 ∨ (gPh G = 4 ∧ joB L G c = true) ∨ (gPh G = 6 ∧ gDr G < c))) → (xs.foldl (scT L P g ot G gr) b).isSome = true
  | [], b, h => by
    rcases h with h | ⟨c, hc, -⟩
    · exact h
    · cases hc
  | c :: xs, b, h => by
    rw [List.foldl_cons]
    refine sc_some xs _ ?_
    rcases h with h | ⟨y, hy, hcase⟩
    · left
      unfold scT
      split
      · exact ofT_some _ _ _ _
      · split
        · exact ofT_some _ _ _ _
        · split
          · exact ofT_some _ _ _ _
          · exact h
    · rcases List.mem_cons.mp hy with z | z
      · left
        subst z
        unfold scT
        by_cases w0 : gPh G = 0
        · rw [if_pos w0]; exact ofT_some _ _ _ _
        · rw [if_neg w0]
          by_cases w2 : gPh G = 2 ∨ (gPh G = 4 ∧ joB L G y = true)
          · rw [if_pos w2]; exact ofT_some _ _ _ _
          · rw [if_neg w2]
            have w6 : gPh G = 6 ∧ gDr G < y := by
              rcases hcase with z | z | z | z
              · exact absurd z w0
              · exact absurd (Or.inl z) w2
              · exact absurd (Or.inr z) w2
              · exact z
            rw [if_pos w6]; exact ofT_some _ _ _ _
      · exact Or.inr ⟨y, z, hcase⟩
/-- there is a best move, and it may be made -/
theorem sbF_ok {L : LandT} {P : ProT} {g : Nat} {ot : Bool} {G : GamT} (hL : LdOK L) (hK : GOK L P G) (hN : GNE L G) (h8 : gPh G < 8) : ∃ q, sbF L P g ot G = some q ∧ mmB L G (nI q.2) = true ∧ q.2 < 2 ^ 31 := by
  have hn := hL.1.2
  have h4 := p4 hn
  have h8n := p8 hn
  have hs4 := hL.2.1.2.1
  obtain ⟨k1, k2, k3, k4, k5, k6, k7, k8, k9, k10, k11⟩ := hK
  obtain ⟨hle, -⟩ := k8 h8
  obtain ⟨n1, n2, n3⟩ := hN
  have hic : ∀ c, c ∈ lsL L (gOp G) (gLe G) → icB L (nI c) (gOp G) (gLe G) = true ∧ c < 4 ^ L.1 := fun c hc => by
    obtain ⟨c1, c2⟩ := lsL_ok (by omega) hc
    refine ⟨?_, c1⟩
    unfold icB
    rw [inN_nI (by omega) c1]
    exact decide_eq_true c2
  have et : ∀ x : Nat, x < 2 ^ 31 → (nI x).toInt.toNat = x := fun x hx => by rw [nI_toInt (by omega)]; rfl
  unfold sbF
  rcases (show gPh G = 0 ∨ gPh G = 1 ∨ gPh G = 2 ∨ gPh G = 3 ∨ gPh G = 4 ∨ gPh G = 5 ∨ gPh G = 6 ∨ gPh G = 7 by omega) with q | q | q | q | q | q | q | q
  · rw [if_neg (by omega), if_neg (by omega), if_neg (by omega), if_neg (by omega)]
    obtain ⟨c, hc⟩ := List.exists_mem_of_ne_nil _ (n1 (Or.inl q))
    have hs := sc_some (L := L) (P := P) (g := g) (ot := ot) (G := G) (gr := grB g (moF P ot G)) (lsL L (gOp G) (gLe G)) none (Or.inr ⟨c, hc, Or.inl q⟩)
    obtain ⟨r, hr⟩ := Option.isSome_iff_exists.mp hs
    have := sc_n (K := fun c => icB L (nI c) (gOp G) (gLe G) = true ∧ c < 4 ^ L.1) _ none (fun c hc _ => hic c hc) (fun z hz => by cases hz) r hr
    exact ⟨r, hr, by unfold mmB; rw [if_pos (by omega)]; exact this.1, by omega⟩
  · rw [if_pos q]
    have hs := fld_some (gr := grB g (moF P ot G)) (f := fun s => ktF L g (cmF L P g ot (gLe G - 1)) (gDr G) (gOp G) s) (gLe G) 0 none (Or.inl hle)
    obtain ⟨r, hr⟩ := Option.isSome_iff_exists.mp hs
    have := fld_n (K := fun k => k < gLe G) _ _ none (fun q hq => by cases hq) (fun k a b => by omega) r hr
    exact ⟨r, hr, by unfold mmB; rw [if_neg (by omega), if_pos q, inN_nI (by omega) this]; rfl, by omega⟩
  · rw [if_neg (by omega), if_neg (by omega), if_neg (by omega), if_neg (by omega)]
    obtain ⟨c, hc⟩ := List.exists_mem_of_ne_nil _ (n1 (Or.inr (Or.inl q)))
    have hs := sc_some (L := L) (P := P) (g := g) (ot := ot) (G := G) (gr := grB g (moF P ot G)) (lsL L (gOp G) (gLe G)) none (Or.inr ⟨c, hc, Or.inr (Or.inl q)⟩)
    obtain ⟨r, hr⟩ := Option.isSome_iff_exists.mp hs
    have := sc_n (K := fun c => icB L (nI c) (gOp G) (gLe G) = true ∧ c < 4 ^ L.1) _ none (fun c hc _ => hic c hc) (fun z hz => by cases hz) r hr
    exact ⟨r, hr, by unfold mmB; rw [if_pos (by omega)]; exact this.1, by omega⟩
  · rw [if_neg (by omega), if_pos q]
    have hs : (hvF L g (grB g (moF P ot G)) true (gOp G) (gLe G)).isSome = true := by rw [hvF_some, ← hvF_some (g := 0) (sm := false) (sk := false)]; exact n2 q
    obtain ⟨r, hr⟩ := Option.isSome_iff_exists.mp hs
    obtain ⟨a1, a2, a3⟩ := hvF_n hn (by omega) hr
    refine ⟨r, hr, ?_, by omega⟩
    unfold mmB
    rw [if_neg (by omega), if_neg (by omega), if_pos q]
    unfold ihB
    rw [inN_nI (by omega) a1]
    dsimp only
    rw [a2, decide_eq_true rfl, a3]; rfl
  · rw [if_neg (by omega), if_neg (by omega), if_neg (by omega), if_neg (by omega)]
    obtain ⟨c, c1, c2, c3, c4⟩ := ihB_some hn (k11 q)
    obtain rfl : gDr G = c := (na_eq k5 (by omega)).mp c1
    unfold okH at c4
    rw [Bool.and_eq_true] at c4
    obtain ⟨ps, hps⟩ := (cpB_pr (by omega) 5 0 (by decide) (by decide)).mp c4.2
    obtain ⟨e1, e2, e3, e4, e5⟩ := pcut_ok (by omega) c3 hps
    have hs := sc_some (L := L) (P := P) (g := g) (ot := ot) (G := G) (gr := grB g (moF P ot G)) (lsL L (gOp G) (gLe G)) none (Or.inr ⟨_, lsL_all e2 e5, Or.inr (Or.inr (Or.inl ⟨q, pcut_jo (by omega) c3 hps⟩))⟩)
    obtain ⟨r, hr⟩ := Option.isSome_iff_exists.mp hs
    have := sc_n (K := fun c => (icB L (nI c) (gOp G) (gLe G) = true ∧ c < 4 ^ L.1) ∧ joB L G c = true) _ none (fun c hc hcase => ⟨hic c hc, by
      rcases hcase with z | z | z | z
      · omega
      · omega
      · exact z.2
      · omega⟩) (fun z hz => by cases hz) r hr
    refine ⟨r, hr, ?_, by omega⟩
    unfold mmB
    rw [if_neg (by omega), if_neg (by omega), if_neg (by omega), if_pos q, this.1.1, et _ (by omega), this.2]; rfl
  · rw [if_neg (by omega), if_neg (by omega), if_pos q]
    have hne := n1 (Or.inr (Or.inr q))
    obtain ⟨r, hr⟩ := Option.isSome_iff_exists.mp (prF_some (gr := grB g (moF P ot G)) (W := fun c => cwL L g c (gOp G) (gLe G)) hne)
    have hmem := prF_n (K := fun c => c ∈ lsL L (gOp G) (gLe G)) (fun c hc => hc) r hr
    obtain ⟨i1, i2⟩ := hic _ hmem
    refine ⟨r, hr, ?_, by omega⟩
    unfold mmB
    rw [if_neg (by omega), if_neg (by omega), if_neg (by omega), if_neg (by omega), if_pos q, i1, Bool.true_and, et _ (by omega), Bool.or_eq_true, decide_eq_true_eq, decide_eq_true_eq]
    by_cases w : (lsL L (gOp G) (gLe G)).length = 1
    · exact Or.inr w
    · left
      have hdl := prF_dl (K := fun c => c ∈ (lsL L (gOp G) (gLe G)).dropLast) w (fun c hc => hc) r hr
      have hdl : r.2 ∈ (lsL L (gOp G) (gLe G)).dropLast := hdl
      obtain ⟨i, hi, hri⟩ := List.mem_iff_getElem.mp hdl
      rw [List.length_dropLast] at hi
      rw [List.getElem_dropLast] at hri
      have hlt := List.pairwise_iff_getElem.mp (lsL_pw (L := L) (o := gOp G) (m := gLe G) (by omega)) i ((lsL L (gOp G) (gLe G)).length - 1) (by omega) (by omega) (by omega)
      have hl : (lsL L (gOp G) (gLe G)).getD ((lsL L (gOp G) (gLe G)).length - 1) 0 = (lsL L (gOp G) (gLe G))[(lsL L (gOp G) (gLe G)).length - 1]'(by omega) := by
        simp only [List.getD]
        rw [List.getElem?_eq_getElem (by omega)]; rfl
      rw [hl]
      omega
  · rw [if_neg (by omega), if_neg (by omega), if_neg (by omega), if_neg (by omega)]
    obtain ⟨c, hc, hlt⟩ := n3 q
    have hs := sc_some (L := L) (P := P) (g := g) (ot := ot) (G := G) (gr := grB g (moF P ot G)) (lsL L (gOp G) (gLe G)) none (Or.inr ⟨c, hc, Or.inr (Or.inr (Or.inr ⟨q, hlt⟩))⟩)
    obtain ⟨r, hr⟩ := Option.isSome_iff_exists.mp hs
    have := sc_n (K := fun c => (icB L (nI c) (gOp G) (gLe G) = true ∧ c < 4 ^ L.1) ∧ gDr G < c) _ none (fun c hc hcase => ⟨hic c hc, by
      rcases hcase with z | z | z | z
      · omega
      · omega
      · omega
      · exact z.2⟩) (fun z hz => by cases hz) r hr
    refine ⟨r, hr, ?_, by omega⟩
    unfold mmB
    rw [if_neg (by omega), if_neg (by omega), if_neg (by omega), if_neg (by omega), if_neg (by omega), if_pos q, this.1.1, et _ (by omega), decide_eq_true this.2]; rfl
  · rw [if_neg (by omega), if_neg (by omega), if_neg (by omega), if_pos q]
    obtain ⟨r, hr⟩ := Option.isSome_iff_exists.mp (ofT_some (grB g (moF P ot G)) (ofT (grB g (moF P ot G)) none 0 (cwL L g (gDr G) (gOp G) (gLe G))) 1 (cwL L g (gSe G) (gOp G) (gLe G)))
    have := ofT_n (K := fun k => k < 2) (fun y hy => ofT_n (K := fun k => k < 2) (b := none) (fun z hz => by cases hz) (by omega) y hy) (by omega) r hr
    exact ⟨r, hr, by unfold mmB; rw [if_neg (by omega), if_neg (by omega), if_neg (by omega), if_neg (by omega), if_neg (by omega), if_neg (by omega), if_pos q, inN_nI (by omega) this]; rfl, by omega⟩
