/-! one sentence of a land -/
def upm (f : Nat → Nat) (p m : Nat) : Nat → Nat := fun x => if x = p then f x ||| m else f x
def upv (f : Nat → Nat → Nat) (p : Nat) (q : Nat × Nat × Nat) : Nat → Nat → Nat := fun x k => if x = p then (if k = 0 then q.1 else if k = 1 then q.2.1 else q.2.2) else f x k
def chr (z : Nat) (t : Nat → Nat) (i : Nat) : Nat := if skp z t i < z then t (skp z t i) else 0
def pairUp (f : Nat → Nat) (p q : Nat) : Nat → Nat := upm (upm f p (1 <<< q)) q (1 <<< p)
def sentT (z : Nat) (t : Nat → Nat) (L : LandT) (i : Nat) : Option Nat × Nat × LandT :=
  let j := skp z t i
  if chr z t i = 60 then let r := numT z t 0 999 none none (j + 1); (r.2.1, r.2.2, (L.1, L.2.1, L.2.2.1, r.1, LdV L, LdB L, LdT L))
  else if chr z t i = 62 then let r := numT z t 0 999 none none (j + 1); (r.2.1, r.2.2, (L.1, L.2.1, r.1, L.2.2.2.1, LdV L, LdB L, LdT L))
  else
    let r := numT z t 0 (L.1 - 1) none none j
    if r.2.1 = none then
      (let k := skp z t r.2.2
      if chr z t r.2.2 = 58 then let q := tvT z t none (k + 1); (q.2.1, q.2.2, (L.1, L.2.1, L.2.2.1, L.2.2.2.1, upv (LdV L) r.1 q.1, LdB L, LdT L))
      else if chr z t r.2.2 = 45 then let q := numT z t 0 (L.1 - 1) (some r.1) none (k + 1); (q.2.1, q.2.2, (L.1, L.2.1, L.2.2.1, L.2.2.2.1, LdV L, pairUp (LdB L) r.1 q.1, LdT L))
      else if chr z t r.2.2 = 61 then let q := numT z t 0 (L.1 - 1) (some r.1) none (k + 1); (q.2.1, q.2.2, (L.1, L.2.1, L.2.2.1, L.2.2.2.1, LdV L, LdB L, pairUp (LdT L) r.1 q.1))
      else (some k, k, L))
    else (r.2.1, r.2.2, L)
/-- the places of the slot l -/
def ldS (l : Nat) (a k : Nat) : Prop := ((a = 77 ∨ a = 78 ∨ a = 79 ∨ a = 80) ∧ k = l) ∨ (a = 81 ∧ 27 * l ≤ k ∧ k < 27 * l + 27) ∨ ((a = 82 ∨ a = 83) ∧ 9 * l ≤ k ∧ k < 9 * l + 9)
theorem numT_ok {z : Nat} {t : Nat → Nat} {low high : Nat} {but : Option Nat} {i : Nat} (h : (numT z t low high but none i).2.1 = none) : low ≤ (numT z t low high but none i).1 ∧ (numT z t low high but none i).1 ≤ high ∧ some (numT z t low high but none i).1 ≠ but ∧ skp z t i < (numT z t low high but none i).2.2 ∧ (numT z t low high but none i).2.2 ≤ z := by
  unfold numT at h ⊢
  dsimp only at h ⊢
  revert h
  cases hn : num z t low high but i with
  | inl f => intro h; cases h
  | inr q =>
    obtain ⟨v, e⟩ := q
    intro _
    dsimp only
    unfold num at hn
    split at hn
    · cases hn
    · rename_i h0
      split at hn
      · cases hn
      · rename_i h4
        split at hn
        · cases hn
        · rename_i hc
          cases hn
          have hk := nD_le z t (skp z t i)
          have hlast : skp z t i + nD z t (skp z t i) ≤ z := by
            generalize skp z t i = j at *
            unfold nD at h0 h4 ⊢
            split
            · rename_i c; rw [if_pos c] at h0; exact absurd rfl h0
            · rename_i c0
              have d0 := isD_lt (show isD z t j = true by cases q : isD z t j with | true => rfl | false => exact absurd q c0)
              split
              · omega
              · rename_i c1
                have d1 := isD_lt (show isD z t (j + 1) = true by cases q : isD z t (j + 1) with | true => rfl | false => exact absurd q c1)
                split
                · omega
                · rename_i c2
                  have d2 := isD_lt (show isD z t (j + 2) = true by cases q : isD z t (j + 2) with | true => rfl | false => exact absurd q c2)
                  split
                  · omega
                  · rename_i c3
                    rw [if_neg c0, if_neg c1, if_neg c2, if_neg c3] at h4
                    exact absurd rfl h4
          refine ⟨by omega, by omega, fun q => hc (Or.inr (Or.inr q)), by omega, hlast⟩
theorem lkV_eq {M : Mem} {z : Nat} {t : Nat → Nat} {i c : Nat} (hT : rT M z t) (hc : 0 < c ∧ c < 256) : lkV z t (skp z t i) = nI c ↔ chr z t i = c := by
  unfold lkV chr
  by_cases h : skp z t i < z
  · rw [if_pos h, if_pos h]
    exact na_eq (by have := (hT.2.2 _ h).2.2; omega) (by omega)
  · rw [if_neg h, if_neg h]
    exact ⟨fun q => absurd q.symm (na_m1 (by omega)), fun q => by omega⟩
theorem RfS.fr {S : Nat → Nat → Prop} {M B : Mem} (h : RfS M) (hF : Fr S M B) : RfS B := h.ext hF.ext
theorem rT.fr {S : Nat → Nat → Prop} {M B : Mem} {z : Nat} {t : Nat → Nat} (h : rT M z t) (hF : Fr S M B) (h1 : ¬ S 75 2) (h2 : ∀ i, ¬ S 76 i) : rT B z t :=
  ⟨(hF.at h1).trans h.1, h.2.1, fun i hi => by rw [hF.at (h2 i)]; exact h.2.2 i hi⟩
theorem ldS_T {l : Nat} : ¬ ldS l 75 2 ∧ ∀ i, ¬ ldS l 76 i := by unfold ldS; constructor <;> intros <;> omega
/-- a pair that is told, in the memory -/
theorem pair_mem {M : Mem} {a l p q : Nat} {f : Nat → Nat} (hp : p < 9) (hq : q < 9) (hl : l < 7) (hne : q ≠ p) (hf : ∀ x, x < 9 → mI M a (9 * l + x) = nI (f x)) : ∀ x, x < 9 → mI (sI (sI M a (9 * l + p) (nI (f p ||| 1 <<< q))) a (9 * l + q) (nI (f q ||| 1 <<< p))) a (9 * l + x) = nI (pairUp f p q x) := by
  intro x hx
  unfold pairUp upm
  rw [mI_sI, mI_sI]
  by_cases h1 : x = q
  · subst h1
    simp [hne]
  · by_cases h2 : x = p
    · subst h2
      simp [show ¬ 9 * l + x = 9 * l + q by omega, h1]
    · simp [show ¬ 9 * l + x = 9 * l + q by omega, show ¬ 9 * l + x = 9 * l + p by omega, h1, h2, hf x hx]
theorem sp_sentence {X : Cx} {d : Nat} {Q : Option AV → Mem → Prop} {z i l : Nat} {t : Nat → Nat} {L : LandT} {M : Mem} (hd : 5 ≤ d) (hS : RfS M) (hT : rT M z t) (hi : i < 2 ^ 17) (hl : l < 7) (hL : rLd M l L) (hn : 2 ≤ L.1 ∧ L.1 ≤ 9)
    (h : ∀ B : Mem, Fr (ldS l) M B → ((sentT z t L i).1 = none → rLd B l (sentT z t L i).2.2) → Q none (pst B (sentT z t L i).1 (sentT z t L i).2.1)) :
    Cl X d 0 0 m_X11_sentence [vR 75, vI (nI l)] (pst M none i) Q := by
  have hz := hT.2.1
  have b0 := skp_le z t i
  have hlx : ix (nI l) = l := na_ix (by omega)
  have hin : vp_in (nI l) 7 := na_in hl (by omega)
  have wn : wOk none := fun _ q => by cases q
  -- the ends
  have h17 : ∀ c : Nat, (c = 60 ∨ c = 62) → chr z t i = c → WA X d 0 0 m_X11_sentence 17 [some (vR 75), some (vI (nI l)), some (vI (nI c)), none, none, none] [] (pst M none (skp z t i)) Q := by
    intro c hc he
    refine b_X11_sentence_17 (M := pst M none (skp z t i)) hS (by omega) (fun M1 e1 => ?_)
    rw [pst_3, nI_add, pst_sI3] at e1
    subst e1
    refine sp_numT (but := none) (by omega) hS hT (by omega) wn (by omega) (by omega) (fun _ q => by cases q) ⟨_, rfl, ExtP, ⟨fun h6 => ⟨hin, fun M3 e3 => ?_⟩, fun h6 => ⟨hin, fun M3 e3 => ?_⟩⟩⟩
    · rw [na_eq (by omega) (by omega)] at h6
      have hc62 : chr z t i = 62 := by omega
      unfold sentT at h
      simp only [hc62, if_neg (show ¬ 62 = 60 by decide), if_true] at h
      rw [hlx, pst_sI (by decide)] at e3
      subst e3
      refine h _ (Fr.sI (Or.inl ⟨by omega, rfl⟩)) (fun _ => ?_)
      obtain ⟨g1, g2, g3, g4, g5⟩ := hL
      refine ⟨?_, ?_, ?_, ?_, fun p hp => ?_⟩
      · rw [mI_sI_a (by decide)]; exact g1
      · rw [mI_sI_a (by decide)]; exact g2
      · rw [mI_sI_eq]
      · rw [mI_sI_a (by decide)]; exact g4
      · obtain ⟨q1, q2, q3⟩ := g5 p hp
        exact ⟨fun k hk => by rw [mI_sI_a (by decide)]; exact q1 k hk, by rw [mI_sI_a (by decide)]; exact q2, by rw [mI_sI_a (by decide)]; exact q3⟩
    · rw [na_eq (by omega) (by omega)] at h6
      have hc60 : chr z t i = 60 := by omega
      unfold sentT at h
      simp only [hc60, if_true] at h
      rw [hlx, pst_sI (by decide)] at e3
      subst e3
      refine h _ (Fr.sI (Or.inl ⟨by omega, rfl⟩)) (fun _ => ?_)
      obtain ⟨g1, g2, g3, g4, g5⟩ := hL
      refine ⟨?_, ?_, ?_, ?_, fun p hp => ?_⟩
      · rw [mI_sI_a (by decide)]; exact g1
      · rw [mI_sI_a (by decide)]; exact g2
      · rw [mI_sI_a (by decide)]; exact g3
      · rw [mI_sI_eq]
      · obtain ⟨q1, q2, q3⟩ := g5 p hp
        exact ⟨fun k hk => by rw [mI_sI_a (by decide)]; exact q1 k hk, by rw [mI_sI_a (by decide)]; exact q2, by rw [mI_sI_a (by decide)]; exact q3⟩
  refine e_X11_sentence (b_X11_sentence_0 (M := pst M none i) hS (by omega) (sp_lookP hS hT (by omega) ⟨_, rfl, ExtP, ⟨fun hq => ?_, fun hq => ⟨fun hq2 => ⟨hin, ?_⟩, fun hq2 => ?_⟩⟩⟩))
  · have hc := (lkV_eq hT (by omega)).mp hq
    rw [hq]
    exact h17 60 (Or.inl rfl) hc
  · have hc60 : ¬ chr z t i = 60 := fun q => hq ((lkV_eq hT (by omega)).mpr q)
    have hc62 : ¬ chr z t i = 62 := fun q => hq2 ((lkV_eq hT (by omega)).mpr q)
    unfold sentT at h
    simp only [if_neg hc60, if_neg hc62] at h
    have e62 : mI (pst M none (skp z t i)) 77 (ix (nI l)) - nI 1 = nI (L.1 - 1) := by rw [pst_o (by omega), hlx, hL.1, na_sub (by omega)]
    rw [e62]
    refine sp_numT (but := none) (by omega) hS hT (by omega) wn (by omega) (by omega) (fun _ q => by cases q) ⟨_, rfl, ExtP, ?_⟩
    have b1 := numT_le z t 0 (L.1 - 1) none none (skp z t i)
    have w1 := numT_w (low := 0) (high := L.1 - 1) (but := none) (t := t) hz (show skp z t i < 2 ^ 19 by omega) wn
    have ok1 := numT_ok (z := z) (t := t) (low := 0) (high := L.1 - 1) (but := none) (i := skp z t i)
    generalize hr1 : numT z t 0 (L.1 - 1) none none (skp z t i) = r1 at b1 w1 h ok1
    have h4 := oI_none (w := r1.2.1) (fun f hf => by have := w1 f hf; omega)
    refine ⟨fun hc => ?_, fun hc => ?_⟩
    · rw [pst_4, h4] at hc
      rw [if_neg hc] at h
      refine b_X11_sentence_92 (M := pst M r1.2.1 r1.2.2) hS (by omega) ⟨fun _ => ⟨fun q => absurd q.symm (na_m1 (by omega)), fun _ => ⟨fun _ => ?_, fun q => absurd q.symm (na_m1 (by omega))⟩⟩, fun q => absurd q.symm (na_m1 (by omega))⟩
      rw [pst_3]
      refine sp_badP hS w1 ⟨rfl, ExtP, ?_⟩
      have h9 := h M Fr.refl (fun q => absurd q hc)
      obtain ⟨f, hf⟩ : ∃ f, r1.2.1 = some f := by
        cases q : r1.2.1 with
        | none => exact absurd q hc
        | some f => exact ⟨f, rfl⟩
      rw [hf] at h9 ⊢
      exact h9
    · rw [pst_4, h4] at hc
      rw [if_pos hc] at h
      obtain ⟨o1, o2, -, o4, o5⟩ := ok1 hc
      rw [hc]
      have b2 := skp_le z t r1.2.2
      refine sp_lookP hS hT (by omega) ⟨_, rfl, ExtP, ?_⟩
      have hp9 : r1.1 < 9 := by omega
      -- a pair
      have hpair : ∀ (c a : Nat), (c = 45 ∧ a = 82) ∨ (c = 61 ∧ a = 83) → chr z t r1.2.2 = c → WA X d 0 0 m_X11_sentence 130 [some (vR 75), some (vI (nI l)), some (vI (nI c)), some (vI (nI r1.1)), none, none] [] (pst M none (skp z t r1.2.2)) Q := by
        intro c a hca hce
        refine b_X11_sentence_130 (M := pst M none (skp z t r1.2.2)) hS (by omega) (fun M1 e1 => ⟨hin, ?_⟩)
        rw [pst_3, nI_add, pst_sI3] at e1
        subst e1
        have e62 : mI (pst M none (skp z t r1.2.2 + 1)) 77 (ix (nI l)) - nI 1 = nI (L.1 - 1) := by rw [pst_o (by omega), hlx, hL.1, na_sub (by omega)]
        rw [e62]
        refine sp_numT (but := some r1.1) (by omega) hS hT (by omega) wn (by omega) (by omega) (fun _ q => by cases q; omega) ⟨_, rfl, ExtP, ?_⟩
        have w3 := numT_w (low := 0) (high := L.1 - 1) (but := some r1.1) (t := t) hz (show skp z t r1.2.2 + 1 < 2 ^ 19 by omega) wn
        have ok3 := numT_ok (z := z) (t := t) (low := 0) (high := L.1 - 1) (but := some r1.1) (i := skp z t r1.2.2 + 1)
        generalize hr3 : numT z t 0 (L.1 - 1) (some r1.1) none (skp z t r1.2.2 + 1) = r3 at w3 ok3 h
        have h43 := oI_none (w := r3.2.1) (fun f hf => by have := w3 f hf; omega)
        have hend : WA X d 0 0 m_X11_sentence 173 [some (vR 75), some (vI (nI l)), none, some (vI (nI r1.1)), some (vI (nI r3.1)), none] [vR a] (pst M r3.2.1 r3.2.2) Q := by
          refine b_X11_sentence_173 (M := pst M r3.2.1 r3.2.2) hS ⟨fun hb => ?_, fun hb => ?_⟩
          · rw [pst_4, h43] at hb
            rcases hca with ⟨rfl, rfl⟩ | ⟨rfl, rfl⟩
            · simp only [hce, if_neg (show ¬ 45 = 58 by decide), if_true] at h
              exact h M Fr.refl (fun q => absurd q hb)
            · simp only [hce, if_neg (show ¬ 61 = 58 by decide), if_neg (show ¬ 61 = 45 by decide), if_true] at h
              exact h M Fr.refl (fun q => absurd q hb)
          · rw [pst_4, h43] at hb
            obtain ⟨p1, p2, p3, -, -⟩ := ok3 hb
            have hq9 : r3.1 < 9 := by omega
            have hne : r3.1 ≠ r1.1 := fun q => p3 (by rw [q])
            have hK : isK M a 14 63 := by
              rcases hca with ⟨-, rfl⟩ | ⟨-, rfl⟩
              · exact RfS.k10 hS
              · exact RfS.k11 hS
            have ha60 : a ≠ 75 := by omega
            have ei : ∀ x : Nat, x < 9 → nI 9 * nI l + nI x = nI (9 * l + x) := fun x _ => by rw [pk_mul, nI_add]
            have hxx : ∀ x : Nat, x < 9 → ix (nI (9 * l + x)) = 9 * l + x := fun x _ => na_ix (by omega)
            refine ⟨63, hK, ?_, ?_, fun M1 e1 => ⟨?_, ?_, fun M2 e2 => ?_⟩⟩
            · rw [ei _ hp9]; exact na_in (by omega) (by omega)
            · rw [ei _ hp9]; exact na_in (by omega) (by omega)
            · rw [ei _ hq9]; exact na_in (by omega) (by omega)
            · rw [ei _ hq9]; exact na_in (by omega) (by omega)
            · have hf : ∃ f : Nat → Nat, (∀ x, x < 9 → mI M a (9 * l + x) = nI (f x)) ∧ ((a = 82 ∧ f = LdB L) ∨ (a = 83 ∧ f = LdT L)) := by
                rcases hca with ⟨-, rfl⟩ | ⟨-, rfl⟩
                · exact ⟨LdB L, fun x hx => (hL.2.2.2.2 x hx).2.1, Or.inl ⟨rfl, rfl⟩⟩
                · exact ⟨LdT L, fun x hx => (hL.2.2.2.2 x hx).2.2, Or.inr ⟨rfl, rfl⟩⟩
              obtain ⟨f, hf, hfa⟩ := hf
              rw [ei _ hp9, hxx _ hp9, pst_o (by omega), hf _ hp9, na_shl _ (by omega), na_or, pst_sI ha60] at e1
              subst e1
              rw [ei _ hq9, hxx _ hq9, pst_o (by omega), mI_sI_i (by omega), hf _ hq9, na_shl _ (by omega), na_or, pst_sI ha60] at e2
              subst e2
              have hpm := pair_mem hp9 hq9 hl hne hf
              have hFr : Fr (ldS l) M (sI (sI M a (9 * l + r1.1) (nI (f r1.1 ||| 1 <<< r3.1))) a (9 * l + r3.1) (nI (f r3.1 ||| 1 <<< r1.1))) :=
                (Fr.sI (Or.inr (Or.inr ⟨by omega, by omega, by omega⟩))).trans (Fr.sI (Or.inr (Or.inr ⟨by omega, by omega, by omega⟩)))
              have hoff : ∀ b k, b ≠ a → mI (sI (sI M a (9 * l + r1.1) (nI (f r1.1 ||| 1 <<< r3.1))) a (9 * l + r3.1) (nI (f r3.1 ||| 1 <<< r1.1))) b k = mI M b k := fun b k hb2 => by rw [mI_sI_a hb2, mI_sI_a hb2]
              obtain ⟨g1, g2, g3, g4, g5⟩ := hL
              rcases hca with ⟨rfl, rfl⟩ | ⟨rfl, rfl⟩
              · obtain rfl : f = LdB L := by rcases hfa with ⟨-, q⟩ | ⟨q, -⟩; exact q; exact absurd q (by decide)
                simp only [hce, if_neg (show ¬ 45 = 58 by decide), if_true] at h
                refine h _ hFr (fun _ => ⟨?_, ?_, ?_, ?_, fun p hp => ⟨fun k hk => ?_, ?_, ?_⟩⟩)
                · rw [hoff _ _ (by decide)]; exact g1
                · rw [hoff _ _ (by decide)]; exact g2
                · rw [hoff _ _ (by decide)]; exact g3
                · rw [hoff _ _ (by decide)]; exact g4
                · rw [hoff _ _ (by decide)]; exact (g5 p hp).1 k hk
                · exact hpm p hp
                · rw [hoff _ _ (by decide)]; exact (g5 p hp).2.2
              · obtain rfl : f = LdT L := by rcases hfa with ⟨q, -⟩ | ⟨-, q⟩; exact absurd q (by decide); exact q
                simp only [hce, if_neg (show ¬ 61 = 58 by decide), if_neg (show ¬ 61 = 45 by decide), if_true] at h
                refine h _ hFr (fun _ => ⟨?_, ?_, ?_, ?_, fun p hp => ⟨fun k hk => ?_, ?_, ?_⟩⟩)
                · rw [hoff _ _ (by decide)]; exact g1
                · rw [hoff _ _ (by decide)]; exact g2
                · rw [hoff _ _ (by decide)]; exact g3
                · rw [hoff _ _ (by decide)]; exact g4
                · rw [hoff _ _ (by decide)]; exact (g5 p hp).1 k hk
                · rw [hoff _ _ (by decide)]; exact (g5 p hp).2.1
                · exact hpm p hp
        refine ⟨fun hq3 => ?_, fun hq3 => ?_⟩
        · rw [na_eq (by omega) (by omega)] at hq3
          obtain rfl : a = 83 := by omega
          exact hend
        · rw [na_eq (by omega) (by omega)] at hq3
          obtain rfl : a = 82 := by omega
          exact hend
      refine b_X11_sentence_92 (M := pst M none (skp z t r1.2.2)) hS (by omega) ⟨fun h58 => ⟨fun h45 => ?_, fun h45 => ⟨fun h61 => ?_, fun h61 => ?_⟩⟩, fun h58 M2 e2 => ?_⟩
      · rw [h45]; exact hpair 45 82 (Or.inl ⟨rfl, rfl⟩) ((lkV_eq hT (by omega)).mp h45)
      · rw [pst_3]
        refine sp_badP hS wn ⟨rfl, ExtP, ?_⟩
        rw [if_neg (fun q => h58 ((lkV_eq hT (by omega)).mpr q)), if_neg (fun q => h45 ((lkV_eq hT (by omega)).mpr q)), if_neg (fun q => h61 ((lkV_eq hT (by omega)).mpr q))] at h
        exact h M Fr.refl (fun q => by cases q)
      · rw [h61]; exact hpair 61 83 (Or.inr ⟨rfl, rfl⟩) ((lkV_eq hT (by omega)).mp h61)
      · rw [if_pos ((lkV_eq hT (by omega)).mp h58)] at h
        rw [pst_3, nI_add, pst_sI3] at e2
        subst e2
        refine sp_tellVotes (by omega) hS hT (by omega) wn hl hp9 ⟨rfl, ExtPP (ExtI.trans (ExtI.trans ExtI)), ?_⟩
        refine h _ ((Fr.sI (Or.inr (Or.inl ⟨rfl, by omega, by omega⟩))).trans ((Fr.sI (Or.inr (Or.inl ⟨rfl, by omega, by omega⟩))).trans (Fr.sI (Or.inr (Or.inl ⟨rfl, by omega, by omega⟩))))) (fun _ => ?_)
        obtain ⟨g1, g2, g3, g4, g5⟩ := hL
        refine ⟨?_, ?_, ?_, ?_, fun p hp => ⟨fun k hk => ?_, ?_, ?_⟩⟩
        · rw [mI_sI_a (by decide), mI_sI_a (by decide), mI_sI_a (by decide)]; exact g1
        · rw [mI_sI_a (by decide), mI_sI_a (by decide), mI_sI_a (by decide)]; exact g2
        · rw [mI_sI_a (by decide), mI_sI_a (by decide), mI_sI_a (by decide)]; exact g3
        · rw [mI_sI_a (by decide), mI_sI_a (by decide), mI_sI_a (by decide)]; exact g4
        · show _ = nI (upv (LdV L) r1.1 (tvT z t none (skp z t r1.2.2 + 1)).1 p k)
          rw [mI_sI, mI_sI, mI_sI]
          unfold upv
          by_cases hpp : p = r1.1
          · subst hpp
            rcases (show k = 0 ∨ k = 1 ∨ k = 2 by omega) with rfl | rfl | rfl
            · simp
            · simp
            · simp
          · rw [if_neg (by omega), if_neg (by omega), if_neg (by omega), if_neg hpp]
            exact (g5 p hp).1 k hk
        · rw [mI_sI_a (by decide), mI_sI_a (by decide), mI_sI_a (by decide)]; exact (g5 p hp).2.1
        · rw [mI_sI_a (by decide), mI_sI_a (by decide), mI_sI_a (by decide)]; exact (g5 p hp).2.2
  · have hc := (lkV_eq hT (by omega)).mp hq2
    rw [hq2]
    exact h17 62 (Or.inr rfl) hc
