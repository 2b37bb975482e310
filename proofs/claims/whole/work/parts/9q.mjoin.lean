/-! THE CLASS: halves joined at the mind's best -/
theorem fb_spec {gr : Bool} {W : Nat → Int} : ∀ (xs : List Nat) (b : Option (Int × Nat)), xs.Pairwise (· < ·) → (∀ q, b = some q → q.1 = W q.2 ∧ ∀ x, x ∈ xs → q.2 < x) → (fbF gr W xs b = none → b = none ∧ xs = []) ∧ ∀ v n, fbF gr W xs b = some (v, n) → (n ∈ xs ∨ b = some (v, n)) ∧ v = W n ∧ ∀ x, (x ∈ xs ∨ ∃ q, b = some q ∧ q.2 = x) → ¬ btB gr (W x) v ∧ (W x = v → n ≤ x)
  | [], b, _, hb => by
    refine ⟨fun h => ⟨h, rfl⟩, fun v n h => ?_⟩
    have h : b = some (v, n) := h
    refine ⟨Or.inr h, (hb _ h).1, fun x hx => ?_⟩
    rcases hx with z | ⟨q, q1, q2⟩
    · cases z
    · rw [h] at q1
      cases q1
      have e := (hb _ h).1
      dsimp only at e q2
      subst q2
      rw [← e]
      exact ⟨by unfold btB; cases gr <;> simp, fun _ => Nat.le_refl _⟩
  | c :: xs, b, hp, hb => by
    rw [List.pairwise_cons] at hp
    obtain ⟨hp1, hp2⟩ := hp
    -- the step
    have hs : ∃ q, ofT gr b c (W c) = some q ∧ (q = (W c, c) ∨ b = some q) ∧ (∀ q', b = some q' → ¬ btB gr q'.1 q.1 ∧ (q'.1 = q.1 → q = q')) ∧ ¬ btB gr (W c) q.1 := by
      cases b with
      | none => exact ⟨(W c, c), rfl, Or.inl rfl, fun q' h => (by cases h), by unfold btB; cases gr <;> simp⟩
      | some q0 =>
        by_cases hc : (if gr = true then q0.1 < W c else W c < q0.1)
        · refine ⟨(W c, c), if_pos hc, Or.inl rfl, fun q' h => ?_, by unfold btB; cases gr <;> simp⟩
          cases h
          unfold btB
          refine ⟨by cases gr <;> simp at hc ⊢ <;> omega, fun e => ?_⟩
          dsimp only at e
          rw [e] at hc
          cases gr <;> simp at hc
        · refine ⟨q0, if_neg hc, Or.inr rfl, fun q' h => ?_, hc⟩
          cases h
          exact ⟨by unfold btB; cases gr <;> simp, fun _ => rfl⟩
    obtain ⟨q, s1, s2, s3, s4⟩ := hs
    have hq1 : q.1 = W q.2 := by
      rcases s2 with z | z
      · rw [z]
      · exact (hb _ z).1
    have hq2 : ∀ x, x ∈ xs → q.2 < x := fun x hx => by
      rcases s2 with z | z
      · rw [z]; exact hp1 x hx
      · exact (hb _ z).2 x (by simp [hx])
    obtain ⟨i1, i2⟩ := fb_spec (gr := gr) (W := W) xs (some q) hp2 (fun q' h => by cases h; exact ⟨hq1, hq2⟩)
    have e : fbF gr W (c :: xs) b = fbF gr W xs (some q) := by rw [← s1]; rfl
    rw [e]
    refine ⟨fun h => ?_, fun v n h => ?_⟩
    · have := (i1 h).1
      cases this
    · obtain ⟨j1, j2, j3⟩ := i2 v n h
      have hqv := j3 q.2 (Or.inr ⟨q, rfl, rfl⟩)
      rw [← hq1] at hqv
      refine ⟨?_, j2, fun x hx => ?_⟩
      · rcases j1 with z | z
        · exact Or.inl (by simp [z])
        · cases z
          rcases s2 with w | w
          · cases w; exact Or.inl (by simp)
          · exact Or.inr w
      · have old : ∀ q', b = some q' → ¬ btB gr q'.1 v ∧ (q'.1 = v → n ≤ q'.2) := fun q' hq' => by
          obtain ⟨t1, t2⟩ := s3 q' hq'
          refine ⟨fun w => ?_, fun w => ?_⟩
          · have h1 := hqv.1
            unfold btB at t1 h1 w
            cases gr <;> simp at t1 h1 w <;> omega
          · have h1 := hqv.1
            have : q'.1 = q.1 := by
              unfold btB at t1 h1
              cases gr <;> simp at t1 h1 <;> omega
            have e2 := t2 this
            rw [← e2]
            exact hqv.2 (this ▸ w)
        rcases hx with z | ⟨q', z1, z2⟩
        · rcases List.mem_cons.mp z with w | w
          · subst w
            refine ⟨fun w => ?_, fun w => ?_⟩
            · have h1 := hqv.1
              unfold btB at s4 h1 w
              cases gr <;> simp at s4 h1 w <;> omega
            · rcases s2 with y | y
              · have e2 : q.1 = v := by rw [y]; exact w
                have := hqv.2 e2
                rw [y] at this; exact this
              · have h1 := hqv.1
                have e2 : q.1 = v := by
                  unfold btB at s4 h1
                  rw [w] at s4
                  cases gr <;> simp at s4 h1 <;> omega
                have h2 := hqv.2 e2
                have h3 := (hb _ y).2 x (by simp)
                omega
          · exact j3 x (Or.inl w)
        · have := old q' z1
          rw [(hb _ z1).1, z2] at this
          exact this
section JOINED
variable {L : LandT} {P : ProT} {g : Nat} {ot : Bool} {G : GamT}
theorem woP_take (Pp : Nat → Nat) (ps : PrL) : ∀ k, k ≤ ps.length → woP L Pp g (ps.take k) = smZ k (fun s => woL g (wnL L (pSe Pp (ps.getD s (0, 0)))))
  | 0, _ => by rw [List.take_zero]; rfl
  | k + 1, h => by
    have hg : ps[k]? = some ps[k] := List.getElem?_eq_getElem (by omega)
    have et : ps.take (k + 1) = ps.take k ++ [ps[k]] := by rw [List.take_succ, hg]; rfl
    have sn : ∀ (qs : PrL) (q : Nat × Nat), woP L Pp g (qs ++ [q]) = woP L Pp g qs + woL g (wnL L (pSe Pp q)) := by
      intro qs q
      induction qs with
      | nil => show woL g (wnL L (pSe Pp q)) + 0 = 0 + _; omega
      | cons r qs ih =>
        show woL g (wnL L (pSe Pp r)) + woP L Pp g (qs ++ [q]) = woL g (wnL L (pSe Pp r)) + woP L Pp g qs + _
        rw [ih]; omega
    rw [et, sn, woP_take Pp ps k (by omega)]
    show _ = smZ k (fun s => woL g (wnL L (pSe Pp (ps.getD s (0, 0))))) + woL g (wnL L (pSe Pp (ps.getD k (0, 0))))
    have : ps.getD k (0, 0) = ps[k] := by simp only [List.getD]; rw [hg]; rfl
    rw [this]
theorem smZ_cg {f h : Nat → Int} : ∀ n, (∀ k, k < n → f k = h k) → smZ n f = smZ n h
  | 0, _ => rfl
  | n + 1, q => by
    show smZ n f + f n = smZ n h + h n
    rw [smZ_cg n (fun k hk => q k (by omega)), q n (by omega)]
theorem woP_cut {dr o m : Nat} {ps : PrL} (hm : m ≤ 4) (hnu : nuF 3 L.1 dr o L.1 = some (2 * m)) (hp : PRp L (sOB 3 L.1 dr o) (2 * m) 0 ps) : woP L (sOB 3 L.1 dr o) g ps = cwL L g (pcut L dr o ps) o m := by
  obtain ⟨e1, e2, e3, e4, e5⟩ := pcut_ok hm hnu hp
  have := woP_take (L := L) (g := g) (sOB 3 L.1 dr o) ps m (by omega)
  rw [show ps.take m = ps by rw [← e1]; exact List.take_length] at this
  rw [this]
  unfold cwL
  refine smZ_cg m (fun k hk => ?_)
  have hg : ps[k]? = some (ps[k]'(by omega)) := List.getElem?_eq_getElem (by omega)
  rw [e4 k _ hg]
  have : ps.getD k (0, 0) = ps[k]'(by omega) := by simp only [List.getD]; rw [hg]; rfl
  rw [this]; rfl
/-- the best way to join is the reference's -/
theorem sb_join (hL : LdOK L) (hm : gLe G ≤ 4) (h4 : gPh G = 4) (hnu : nuF 3 L.1 (gDr G) (gOp G) L.1 = some (2 * gLe G)) {dr : Nat} (hdr : dr ≤ 1) (hmo : moF P ot G = 1 - dr) {b : Nat × Int} (hj : joW L (sOB 3 L.1 (gDr G) (gOp G)) (pcut L (gDr G) (gOp G)) (gLe G) (1 - dr) g = some b) : sbF L P g ot G = some (sgI g b.2, b.1) := by
  have e1 : sbF L P g ot G = fbF (grB g (1 - dr)) (fun c => cwL L g c (gOp G) (gLe G)) ((lsL L (gOp G) (gLe G)).filter (joB L G)) none := by
    unfold sbF
    rw [if_neg (by omega), if_neg (by omega), if_neg (by omega), if_neg (by omega), hmo]
    unfold fbF
    rw [List.foldl_filter]
    congr 1
    funext acc c
    unfold scT
    rw [if_neg (by omega)]
    by_cases hc : joB L G c = true
    · rw [if_pos (Or.inr ⟨h4, hc⟩), if_pos hc]
    · rw [if_neg (by rintro (w | w); omega; exact hc w.2), if_neg (by omega), if_neg hc]
  obtain ⟨⟨ps, p1, p2⟩, p3⟩ := joW_num hm (show 1 - dr ≤ 1 by omega) hj
  obtain ⟨f1, f2⟩ := fb_spec (gr := grB g (1 - dr)) (W := fun c => cwL L g c (gOp G) (gLe G)) ((lsL L (gOp G) (gLe G)).filter (joB L G)) none ((lsL_pw hm).filter _) (fun q hq => by cases hq)
  obtain ⟨c1, c2, c3, c4, c5⟩ := pcut_ok hm hnu p1
  have hin : pcut L (gDr G) (gOp G) ps ∈ (lsL L (gOp G) (gLe G)).filter (joB L G) := List.mem_filter.mpr ⟨lsL_all c2 c5, pcut_jo hm hnu p1⟩
  rw [e1]
  cases hr : fbF (grB g (1 - dr)) (fun c => cwL L g c (gOp G) (gLe G)) ((lsL L (gOp G) (gLe G)).filter (joB L G)) none with
  | none =>
    rw [(f1 hr).2] at hin; cases hin
  | some q =>
    obtain ⟨v, n⟩ := q
    obtain ⟨g1, g2, g3⟩ := f2 v n hr
    have hn : n ∈ (lsL L (gOp G) (gLe G)).filter (joB L G) := by
      rcases g1 with z | z
      · exact z
      · cases z
    obtain ⟨n1, n2⟩ := List.mem_filter.mp hn
    obtain ⟨n3, n4⟩ := lsL_ok hm n1
    obtain ⟨ps2, q1, q2⟩ := jo_pairs hm hnu n4 n3 n2
    have w1 : woP L (sOB 3 L.1 (gDr G) (gOp G)) g ps = cwL L g (pcut L (gDr G) (gOp G) ps) (gOp G) (gLe G) := woP_cut hm hnu p1
    have w2 : woP L (sOB 3 L.1 (gDr G) (gOp G)) g ps2 = cwL L g n (gOp G) (gLe G) := by rw [← q2]; exact woP_cut hm hnu q1
    have b1 : b.1 = pcut L (gDr G) (gOp G) ps := by rw [p2]
    have b2 : sgI g b.2 = cwL L g (pcut L (gDr G) (gOp G) ps) (gOp G) (gLe G) := by
      rw [p2]
      show sgI g (pwL L _ g ps) = _
      rw [pwL_sg, sgI_sg, w1]
    -- no other is better
    have t1 := (g3 _ (Or.inl hin))
    have t2 := p3 ps2 q1
    have t2a : ¬ btB (grB g (1 - dr)) v (sgI g b.2) := fun w => t2.1 (by
      rw [pwL_sg, w2]
      rw [← sgI_sg g b.2]
      exact (prB_sg (by omega)).mpr (by rw [← g2]; exact w))
    have ev : v = sgI g b.2 := by
      have h1 := t1.1
      try dsimp only at h1
      rw [← b2] at h1
      unfold btB at h1 t2a
      cases hgr : grB g (1 - dr) <;> rw [hgr] at h1 t2a <;> simp at h1 t2a <;> omega
    have en : n = b.1 := by
      have h1 := t1.2 (by rw [← b2]; exact ev.symm)
      have h2 := t2.2 (by rw [pwL_sg, w2, ← sgI_sg g b.2, ← ev, g2])
      have h2 : b.1 ≤ pcut L (gDr G) (gOp G) ps2 := h2
      rw [q2] at h2
      omega
    rw [ev, en]
end JOINED
