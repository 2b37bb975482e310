/-! WHAT THE JOINER FINDS, in the reference's words -/
def btB (gr : Bool) (x y : Int) : Prop := if gr then y < x else x < y
def bst (gr : Bool) (S : Int → Prop) (v : Int) : Prop := S v ∧ ∀ x, S x → ¬ btB gr x v
theorem bst_uniq {gr : Bool} {S : Int → Prop} {v w : Int} (h1 : bst gr S v) (h2 : bst gr S w) : v = w := by
  have a := h1.2 w h2.1
  have b := h2.2 v h1.1
  unfold btB at a b
  cases gr <;> simp at a b <;> omega
theorem bst_congr {gr : Bool} {S T : Int → Prop} {v : Int} (h : ∀ x, S x ↔ T x) : bst gr S v ↔ bst gr T v := by
  unfold bst
  rw [h]
  exact ⟨fun q => ⟨q.1, fun x hx => q.2 x ((h x).mpr hx)⟩, fun q => ⟨q.1, fun x hx => q.2 x ((h x).mp hx)⟩⟩
theorem bst_be {gr : Bool} {acc : Option Int} {v w : Int} {T : Int → Prop} : bst gr (fun x => some (beI gr acc v) = some x ∨ T x) w ↔ bst gr (fun x => acc = some x ∨ x = v ∨ T x) w := by
  cases acc with
  | none =>
    refine bst_congr (fun x => ?_)
    show (some v = some x ∨ T x) ↔ ((none : Option Int) = some x ∨ x = v ∨ T x)
    constructor
    · rintro (h | h)
      · cases h; exact Or.inr (Or.inl rfl)
      · exact Or.inr (Or.inr h)
    · rintro (h | h | h)
      · cases h
      · rw [h]; exact Or.inl rfl
      · exact Or.inr h
  | some b =>
    by_cases hc : btB gr v b
    · have e : beI gr (some b) v = v := by
        show (if (if gr = true then b < v else v < b) then v else b) = v
        unfold btB at hc
        rw [if_pos hc]
      rw [e]
      constructor
      · rintro ⟨h1, h2⟩
        refine ⟨?_, fun x hx => ?_⟩
        · rcases h1 with z | z
          · cases z; exact Or.inr (Or.inl rfl)
          · exact Or.inr (Or.inr z)
        · rcases hx with z | z | z
          · cases z
            have := h2 v (Or.inl rfl)
            unfold btB at hc this ⊢
            cases gr <;> simp at hc this ⊢ <;> omega
          · rw [z]; exact h2 v (Or.inl rfl)
          · exact h2 x (Or.inr z)
      · rintro ⟨h1, h2⟩
        refine ⟨?_, fun x hx => ?_⟩
        · rcases h1 with z | z | z
          · cases z
            exact absurd hc (h2 v (Or.inr (Or.inl rfl)))
          · rw [z]; exact Or.inl rfl
          · exact Or.inr z
        · rcases hx with z | z
          · cases z; exact h2 v (Or.inr (Or.inl rfl))
          · exact h2 x (Or.inr (Or.inr z))
    · have e : beI gr (some b) v = b := by
        show (if (if gr = true then b < v else v < b) then v else b) = b
        unfold btB at hc
        rw [if_neg hc]
      rw [e]
      constructor
      · rintro ⟨h1, h2⟩
        refine ⟨?_, fun x hx => ?_⟩
        · rcases h1 with z | z
          · exact Or.inl z
          · exact Or.inr (Or.inr z)
        · rcases hx with z | z | z
          · exact h2 x (Or.inl z)
          · rw [z]
            have := h2 b (Or.inl rfl)
            unfold btB at hc this ⊢
            cases gr <;> simp at hc this ⊢ <;> omega
          · exact h2 x (Or.inr z)
      · rintro ⟨h1, h2⟩
        refine ⟨?_, fun x hx => ?_⟩
        · rcases h1 with z | z | z
          · exact Or.inl z
          · have := h2 b (Or.inl rfl)
            rw [z] at this ⊢
            have e2 : b = v := by
              unfold btB at hc this
              cases gr <;> simp at hc this <;> omega
            rw [e2]; exact Or.inl rfl
          · exact Or.inr z
        · rcases hx with z | z
          · exact h2 x (Or.inl z)
          · exact h2 x (Or.inr (Or.inr z))
def woP (L : LandT) (P : Nat → Nat) (g : Nat) : PrL → Int
  | [] => 0
  | q :: ps => woL g (wnL L (pSe P q)) + woP L P g ps
def sgI (g : Nat) (x : Int) : Int := if g = 2 then -x else x
theorem sgI_sg (g : Nat) (x : Int) : sgI g (sgI g x) = x := by unfold sgI; split <;> omega
theorem wcL_sg (g w : Nat) : wcL g w = sgI g (woL g w) := rfl
theorem pwL_sg (L : LandT) (P : Nat → Nat) (g : Nat) : ∀ ps : PrL, pwL L P g ps = sgI g (woP L P g ps)
  | [] => by unfold sgI; split <;> rfl
  | q :: ps => by
    show wcL g (wnL L (pSe P q)) + pwL L P g ps = sgI g (woL g (wnL L (pSe P q)) + woP L P g ps)
    rw [pwL_sg L P g ps, wcL_sg]
    unfold sgI; split <;> omega
theorem prB_sg {g pl : Nat} {x y : Int} (hpl : pl ≤ 1) : prB pl (sgI g x) (sgI g y) = true ↔ btB (grB g pl) x y := by
  unfold prB sgI btB grB
  rcases (show pl = 0 ∨ pl = 1 by omega) with rfl | rfl
  · by_cases hg : g = 2
    · simp [hg]
    · simp [hg]
  · by_cases hg : g = 2
    · simp [hg]
    · simp [hg]
theorem fld_bst {L : LandT} {P : Nat → Nat} {g u : Nat} {gr : Bool} {rec : Nat → Option Int} : ∀ j s (acc : Option Int) (v : Int), fldR (pvT L P g gr u rec) j s acc = some v ↔ bst gr (fun x => acc = some x ∨ ∃ o, s ≤ o ∧ o < s + j ∧ u.testBit o = false ∧ faL L (P (loN u) ||| P o) = 0 ∧ ∃ y, rec ((u ||| 2 ^ loN u) ||| 2 ^ o) = some y ∧ x = y + woL g (wnL L (P (loN u) ||| P o))) v
  | 0, s, acc, v => by
    rw [fldR]
    constructor
    · intro h
      refine ⟨Or.inl h, fun x hx => ?_⟩
      rcases hx with z | ⟨o, h1, h2, -⟩
      · rw [h] at z; cases z
        unfold btB; cases gr <;> simp
      · omega
    · rintro ⟨h | ⟨o, h1, h2, -⟩, -⟩
      · exact h
      · omega
  | j + 1, s, acc, v => by
    rw [fldR, fld_bst j (s + 1)]
    by_cases hv : u.testBit s = false ∧ faL L (P (loN u) ||| P s) = 0
    · obtain ⟨hv1, hv2⟩ := hv
      cases hr : rec ((u ||| 2 ^ loN u) ||| 2 ^ s) with
      | none =>
        have e : pvT L P g gr u rec acc s = acc := by
          unfold pvT
          rw [if_neg (by rw [hv1, hv2]; simp), hr]
        rw [e]
        refine bst_congr (fun x => or_congr Iff.rfl ⟨fun ⟨o, h1, h2, h3⟩ => ⟨o, by omega, by omega, h3⟩, fun ⟨o, h1, h2, h3, h4, y, h5, h6⟩ => ?_⟩)
        by_cases z : o = s
        · subst z; rw [hr] at h5; cases h5
        · exact ⟨o, by omega, by omega, h3, h4, y, h5, h6⟩
      | some y0 =>
        have e : pvT L P g gr u rec acc s = some (beI gr acc (y0 + woL g (wnL L (P (loN u) ||| P s)))) := by
          unfold pvT
          rw [if_neg (by rw [hv1, hv2]; simp), hr]
        rw [e, bst_be]
        refine bst_congr (fun x => or_congr Iff.rfl ⟨?_, fun ⟨o, h1, h2, h3, h4, y, h5, h6⟩ => ?_⟩)
        · rintro (z | ⟨o, h1, h2, h3⟩)
          · exact ⟨s, Nat.le_refl _, by omega, hv1, hv2, y0, hr, z⟩
          · exact ⟨o, by omega, by omega, h3⟩
        · by_cases z : o = s
          · subst z
            rw [hr] at h5; cases h5
            exact Or.inl h6
          · exact Or.inr ⟨o, by omega, by omega, h3, h4, y, h5, h6⟩
    · have e : pvT L P g gr u rec acc s = acc := by
        unfold pvT
        rw [if_pos]
        by_cases h1 : u.testBit s = true
        · exact Or.inl h1
        · exact Or.inr (fun h2 => hv ⟨by simpa using h1, h2⟩)
      rw [e]
      refine bst_congr (fun x => or_congr Iff.rfl ⟨fun ⟨o, h1, h2, h3⟩ => ⟨o, by omega, by omega, h3⟩, fun ⟨o, h1, h2, h3, h4, h5⟩ => ?_⟩)
      by_cases z : o = s
      · subst z; exact absurd ⟨h3, h4⟩ hv
      · exact ⟨o, by omega, by omega, h3, h4, h5⟩
theorem pvB_spec {L : LandT} {P : Nat → Nat} {m g : Nat} {gr : Bool} (hm : m ≤ 8) : ∀ f u, u < 256 → zcN u + 1 ≤ 2 * f → ∀ v, pvB L P m g gr f u = some v → bst gr (fun x => ∃ ps, PRp L P m u ps ∧ woP L P g ps = x) v
  | 0, u, hu, hz, v, h => by omega
  | f + 1, u, hu, hz, v, h => by
    unfold pvB at h
    split at h
    · rename_i hl
      cases h
      refine ⟨⟨[], hl, rfl⟩, fun x hx => ?_⟩
      obtain ⟨ps, h1, h2⟩ := hx
      cases ps with
      | nil =>
        have h2 : (0 : Int) = x := h2
        rw [← h2]; unfold btB; cases gr <;> simp
      | cons q ps => have := h1.1; omega
    · rename_i hl
      rw [fld_bst] at h
      have hz2 : ∀ o, o < m → loN u < o → u.testBit o = false → ((u ||| 2 ^ loN u) ||| 2 ^ o) < 256 ∧ zcN ((u ||| 2 ^ loN u) ||| 2 ^ o) + 1 ≤ 2 * f := fun o h1 h2 h3 => by
        have := zc_dec u hu o (by omega) h2 h3
        exact ⟨u_or hu (by omega) (by omega), by omega⟩
      refine ⟨?_, fun x hx => ?_⟩
      · obtain ⟨z | ⟨o, h1, h2, h3, h4, y, h5, h6⟩, -⟩ := h
        · cases z
        · obtain ⟨k1, k2⟩ := hz2 o (by omega) (by omega) h3
          obtain ⟨ps, p1, p2⟩ := (pvB_spec hm f _ k1 k2 y h5).1
          refine ⟨(loN u, o) :: ps, ⟨by omega, rfl, by show loN u < o; omega, by show o < m; omega, h3, h4, p1⟩, ?_⟩
          show woL g (wnL L (pSe P (loN u, o))) + woP L P g ps = v
          rw [p2, h6]
          show woL g (wnL L (P (loN u) ||| P o)) + y = _
          omega
      · obtain ⟨ps, p1, p2⟩ := hx
        cases ps with
        | nil => have p1 : m ≤ loN u := p1; omega
        | cons q ps =>
          obtain ⟨q1, q2⟩ := q
          obtain ⟨r1, r2, r3, r4, r5, r6, r7⟩ := p1
          dsimp only at r2 r3 r4 r5 r6 r7
          subst r2
          obtain ⟨k1, k2⟩ := hz2 q2 r4 r3 r5
          have hsome : (pvB L P m g gr f ((u ||| 2 ^ loN u) ||| 2 ^ q2)).isSome = true := by
            rw [← cpB_pv]
            exact (cpB_pr hm f _ k1 k2).mpr ⟨ps, r7⟩
          obtain ⟨y, hy⟩ := Option.isSome_iff_exists.mp hsome
          have b1 := (pvB_spec hm f _ k1 k2 y hy).2 _ ⟨ps, r7, rfl⟩
          have b2 := h.2 (y + woL g (wnL L (P (loN u) ||| P q2))) (Or.inr ⟨q2, by omega, by omega, r5, r6, y, hy, rfl⟩)
          rw [← p2]
          have e : woP L P g ((loN u, q2) :: ps) = woL g (wnL L (P (loN u) ||| P q2)) + woP L P g ps := rfl
          rw [e]
          unfold btB at b1 b2 ⊢
          cases gr <;> simp at b1 b2 ⊢ <;> omega
theorem stJ_some (pl : Nat) (acc : Option (Nat × Int)) (x : Nat × Int) : (stJ pl acc x).isSome = true := by
  unfold stJ
  cases acc with
  | none => rfl
  | some b => dsimp only; split <;> rfl
theorem joF_spec {L : LandT} {P : Nat → Nat} {NU : PrL → Nat} {pl g : Nat} (hpl : pl ≤ 1) {pre : PrL} : ∀ (xs : List PrL) (st : Option (Nat × Int)), (joF L P NU pl g pre st xs = none → st = none ∧ xs = []) ∧ ∀ b, joF L P NU pl g pre st xs = some b → (st = some b ∨ ∃ ps, ps ∈ xs ∧ b = (NU (pre ++ ps), pwL L P g (pre ++ ps))) ∧ ∀ c : Nat × Int, (st = some c ∨ ∃ ps, ps ∈ xs ∧ c = (NU (pre ++ ps), pwL L P g (pre ++ ps))) → ¬ prB pl c.2 b.2 = true ∧ (c.2 = b.2 → b.1 ≤ c.1)
  | [], st => by
    refine ⟨fun h => ⟨h, rfl⟩, fun b h => ⟨Or.inl h, fun c hc => ?_⟩⟩
    have h : st = some b := h
    rcases hc with z | ⟨ps, z, -⟩
    · rw [h] at z; cases z
      refine ⟨?_, fun _ => Nat.le_refl _⟩
      unfold prB; split <;> simp
    · cases z
  | x :: xs, st => by
    obtain ⟨i1, i2⟩ := joF_spec (L := L) (P := P) (NU := NU) (g := g) (pre := pre) hpl xs (stJ pl st (NU (pre ++ x), pwL L P g (pre ++ x)))
    refine ⟨fun h => ?_, fun b h => ?_⟩
    · have := (i1 h).1
      have := stJ_some pl st (NU (pre ++ x), pwL L P g (pre ++ x))
      simp_all
    · obtain ⟨j1, j2⟩ := i2 b h
      have tr : ∀ x y z : Int, ¬ prB pl x y = true → ¬ prB pl y z = true → ¬ prB pl x z = true ∧ (x = z → x = y) := fun x y z h1 h2 => by
        unfold prB at h1 h2 ⊢
        rcases (show pl = 0 ∨ pl = 1 by omega) with rfl | rfl <;> simp at h1 h2 ⊢ <;> omega
      have as : ∀ x y : Int, prB pl x y = true → ¬ prB pl y x = true ∧ x ≠ y := fun x y h1 => by
        unfold prB at h1 ⊢
        rcases (show pl = 0 ∨ pl = 1 by omega) with rfl | rfl <;> simp at h1 ⊢ <;> omega
      -- the step
      have hs : ∃ d, stJ pl st (NU (pre ++ x), pwL L P g (pre ++ x)) = some d ∧ (st = some d ∨ d = (NU (pre ++ x), pwL L P g (pre ++ x))) ∧ ∀ c : Nat × Int, (st = some c ∨ c = (NU (pre ++ x), pwL L P g (pre ++ x))) → ¬ prB pl c.2 d.2 = true ∧ (c.2 = d.2 → d.1 ≤ c.1) := by
        have irr : ∀ y : Int, ¬ prB pl y y = true := fun y => by unfold prB; split <;> simp
        cases st with
        | none =>
          refine ⟨_, rfl, Or.inr rfl, fun c hc => ?_⟩
          rcases hc with z | z
          · cases z
          · rw [z]; exact ⟨irr _, fun _ => Nat.le_refl _⟩
        | some b0 =>
          by_cases hc0 : prB pl (pwL L P g (pre ++ x)) b0.2 = true ∨ (pwL L P g (pre ++ x) = b0.2 ∧ NU (pre ++ x) < b0.1)
          · refine ⟨(NU (pre ++ x), pwL L P g (pre ++ x)), if_pos hc0, Or.inr rfl, fun c hc => ?_⟩
            rcases hc with z | z
            · cases z
              rcases hc0 with w | w
              · exact ⟨(as _ _ w).1, fun q => absurd q.symm (as _ _ w).2⟩
              · exact ⟨by dsimp only; rw [w.1]; exact irr _, fun _ => Nat.le_of_lt w.2⟩
            · rw [z]; exact ⟨irr _, fun _ => Nat.le_refl _⟩
          · refine ⟨b0, if_neg hc0, Or.inl rfl, fun c hc => ?_⟩
            rcases hc with z | z
            · cases z; exact ⟨irr _, fun _ => Nat.le_refl _⟩
            · rw [z]
              exact ⟨fun q => hc0 (Or.inl q), fun q => Classical.byContradiction (fun w => hc0 (Or.inr ⟨q, Nat.lt_of_not_le w⟩))⟩
      obtain ⟨d, d1, d2, d3⟩ := hs
      rw [d1] at j1 j2
      refine ⟨?_, fun c hc => ?_⟩
      · rcases j1 with z | ⟨ps, z1, z2⟩
        · cases z
          rcases d2 with w | w
          · exact Or.inl w
          · exact Or.inr ⟨x, by simp, w⟩
        · exact Or.inr ⟨ps, by simp [z1], z2⟩
      · have main : (st = some c ∨ c = (NU (pre ++ x), pwL L P g (pre ++ x))) → ¬ prB pl c.2 b.2 = true ∧ (c.2 = b.2 → b.1 ≤ c.1) := fun hq => by
          obtain ⟨a1, a2⟩ := d3 c hq
          obtain ⟨b1, b2⟩ := j2 d (Or.inl rfl)
          obtain ⟨t1, t2⟩ := tr _ _ _ a1 b1
          refine ⟨t1, fun q => ?_⟩
          have e := t2 q
          have := a2 e
          have := b2 (e.symm.trans q)
          omega
        rcases hc with z | ⟨ps, z1, z2⟩
        · exact main (Or.inl z)
        · rcases List.mem_cons.mp z1 with w | w
          · subst w; exact main (Or.inr z2)
          · exact j2 c (Or.inr ⟨ps, w, z2⟩)
theorem pc0 {k : Nat} (h : k < 9) : pcN k 0 = 0 := (show ∀ k, k < 9 → pcN k 0 = 0 by decide) k h
section JOW
variable {L : LandT} {P : Nat → Nat} {NU : PrL → Nat} {m pl g : Nat}
theorem joW_mem (hm : m ≤ 4) (ps : PrL) : ps ∈ jlF L P (2 * m) m 0 ↔ PRp L P (2 * m) 0 ps := jlF_mem (by omega) m 0 ps (by decide) (by rw [pc0 (by omega)]; omega)
theorem joW_some (hm : m ≤ 4) (hpl : pl ≤ 1) : (joW L P NU m pl g).isSome = cpB L P (2 * m) 5 0 := by
  have hc := cpB_pr (L := L) (P := P) (m := 2 * m) (by omega) 5 0 (by decide) (by decide)
  obtain ⟨s1, s2⟩ := joF_spec (L := L) (P := P) (NU := NU) (g := g) hpl (pre := []) (jlF L P (2 * m) m 0) none
  cases hj : joW L P NU m pl g with
  | none =>
    have := (s1 hj).2
    cases hb : cpB L P (2 * m) 5 0 with
    | false => rfl
    | true =>
      obtain ⟨ps, hp⟩ := hc.mp hb
      rw [← joW_mem hm, this] at hp
      cases hp
  | some b =>
    obtain ⟨j1, -⟩ := s2 b hj
    rcases j1 with z | ⟨ps, z1, -⟩
    · cases z
    · exact (hc.mpr ⟨ps, (joW_mem hm ps).mp z1⟩).symm
theorem joW_val (hm : m ≤ 4) (hpl : pl ≤ 1) {b : Nat × Int} (hj : joW L P NU m pl g = some b) : pvB L P (2 * m) g (grB g pl) 5 0 = some (sgI g b.2) := by
  obtain ⟨s1, s2⟩ := joF_spec (L := L) (P := P) (NU := NU) (g := g) hpl (pre := []) (jlF L P (2 * m) m 0) none
  obtain ⟨j1, j2⟩ := s2 b hj
  have hs := joW_some (L := L) (P := P) (NU := NU) (g := g) hm hpl
  rw [hj, cpB_pv (g := g) (gr := grB g pl)] at hs
  obtain ⟨v, hv⟩ := Option.isSome_iff_exists.mp hs.symm
  rw [hv]
  congr 1
  refine bst_uniq (pvB_spec (by omega) 5 0 (by decide) (by decide) v hv) ⟨?_, fun x hx => ?_⟩
  · rcases j1 with z | ⟨ps, z1, z2⟩
    · cases z
    · refine ⟨ps, (joW_mem hm ps).mp z1, ?_⟩
      rw [z2]
      show woP L P g ps = sgI g (pwL L P g ps)
      rw [pwL_sg, sgI_sg]
  · obtain ⟨ps, p1, p2⟩ := hx
    have := (j2 (NU ps, pwL L P g ps) (Or.inr ⟨ps, (joW_mem hm ps).mpr p1, rfl⟩)).1
    rw [← p2]
    intro w
    apply this
    show prB pl (pwL L P g ps) b.2 = true
    rw [pwL_sg, ← sgI_sg g b.2]
    exact (prB_sg hpl).mpr w
theorem joW_num (hm : m ≤ 4) (hpl : pl ≤ 1) {b : Nat × Int} (hj : joW L P NU m pl g = some b) : (∃ ps, PRp L P (2 * m) 0 ps ∧ b = (NU ps, pwL L P g ps)) ∧ ∀ ps, PRp L P (2 * m) 0 ps → ¬ prB pl (pwL L P g ps) b.2 = true ∧ (pwL L P g ps = b.2 → b.1 ≤ NU ps) := by
  obtain ⟨s1, s2⟩ := joF_spec (L := L) (P := P) (NU := NU) (g := g) hpl (pre := []) (jlF L P (2 * m) m 0) none
  obtain ⟨j1, j2⟩ := s2 b hj
  refine ⟨?_, fun ps hp => j2 (NU ps, pwL L P g ps) (Or.inr ⟨ps, (joW_mem hm ps).mpr hp, rfl⟩)⟩
  rcases j1 with z | ⟨ps, z1, z2⟩
  · cases z
  · exact ⟨ps, (joW_mem hm ps).mp z1, z2⟩
end JOW
