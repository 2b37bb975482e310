/-! THE CLASS: a land's tables of what hangs together and what can become so -/
theorem na_dec (s : Nat) : nI (s + 1) + (-1) = nI s := by
  rw [show (-1 : Int32) = -(nI 1) by decide, ← Int32.sub_eq_add_neg, na_sub (by omega)]
  rfl
def oD (u : Nat) : Int32 := if u = 0 then (-1) else nI (u - 1)
theorem oD_s (u : Nat) : oD (u + 1) = nI u := by unfold oD; rw [if_neg (by omega)]; rfl
theorem oD_d (u : Nat) : nI u + (-1) = oD u := by
  cases u with
  | zero => decide
  | succ u => rw [na_dec, oD_s]
theorem oD_n {u : Nat} (hu : u < 2 ^ 31) : oD u < nI 0 ↔ u = 0 := by
  cases u with
  | zero => exact ⟨fun _ => rfl, fun _ => by decide⟩
  | succ u => rw [oD_s, na_lt (by omega) (by decide)]; omega
section HANG
variable {X : Cx} {d a n : Nat} {M : Mem} {Q : Option AV → Mem → Prop}
theorem gaR_lt {f : Nat → Nat} (hf : ∀ p, p < n → f p < 2 ^ n) : ∀ k p, k ≤ n → p < n → gaR f k p < 2 ^ n
  | 0, p, _, hp => hf p hp
  | k + 1, p, hk, hp => by
    have h1 := gaR_lt hf k p (by omega) hp
    have h2 := gaR_lt hf k k (by omega) (by omega)
    unfold gaR; split
    · exact Nat.or_lt_two_pow h1 h2
    · exact h1
theorem kp_gather {f : Nat → Nat} (hS : LaS M a) (hn : n ≤ 9) (h0 : mI M a 0 = nI n) (hf : ∀ p, p < n → f p < 2 ^ n) (hT : ∀ p, p < n → mI M (a + 4) p = nI (f p))
    (h : ∀ B, Fr (fun b k => b = a + 4 ∧ k < n) M B → (∀ p, p < n → mI B (a + 4) p = nI (gaR f n p)) → Q none B) : Cl X d 0 0 m_X3_gatherTogether [vR a] M Q := by
  have h512 := p9 hn
  have outer : ∀ r k (B : Mem), k + r = n → Fr (fun b k => b = a + 4 ∧ k < n) M B → (∀ p, p < n → mI B (a + 4) p = nI (gaR f k p)) → WA X d 0 0 m_X3_gatherTogether 2 [some (vR a), some (vI (nI k)), none] [] B Q := by
    intro r
    induction r with
    | zero =>
      intro k B hk hF hB
      obtain rfl : k = n := by omega
      have hSB := hS.ext hF.ext
      have h0B : mI B a 0 = nI k := (hF.at (by omega)).trans h0
      exact b_X3_gatherTogether_2 hSB ⟨fun _ => h B hF hB, fun q => absurd (by rw [h0B, na_le (by omega) (by omega)]; exact Nat.le_refl _) q⟩
    | succ r ih =>
      intro k B hk hF hB
      have hSB := hS.ext hF.ext
      have h0B : mI B a 0 = nI n := (hF.at (by omega)).trans h0
      have inner : ∀ r2 p (C : Mem), p + r2 = n → Fr (fun b k => b = a + 4 ∧ k < n) M C → (∀ q, q < n → mI C (a + 4) q = nI (gaR f (if q < p then k + 1 else k) q)) → WA X d 0 0 m_X3_gatherTogether 12 [some (vR a), some (vI (nI k)), some (vI (nI p))] [] C Q := by
        intro r2
        induction r2 with
        | zero =>
          intro p C hp hFC hC
          obtain rfl : p = n := by omega
          have h0C : mI C a 0 = nI p := (hFC.at (by omega)).trans h0
          refine b_X3_gatherTogether_12 (hS.ext hFC.ext) ⟨fun _ => ?_, fun q => absurd (by rw [h0C, na_le (by omega) (by omega)]; exact Nat.le_refl _) q⟩
          rw [nI_add]
          refine ih (k + 1) C (by omega) hFC (fun q hq => ?_)
          have := hC q hq
          rw [if_pos hq] at this; exact this
        | succ r2 ih2 =>
          intro p C hp hFC hC
          have h0C : mI C a 0 = nI n := (hFC.at (by omega)).trans h0
          have cp := hC p (by omega)
          rw [if_neg (by omega)] at cp
          have glt := gaR_lt hf k p (by omega) (by omega)
          have gltk := gaR_lt hf k k (by omega) (by omega)
          -- the place k keeps what it was
          have ck : mI C (a + 4) k = nI (gaR f k k) := by
            have := hC k (by omega)
            split at this
            · rw [this]
              show nI (if (gaR f k k).testBit k then gaR f k k ||| gaR f k k else gaR f k k) = _
              rw [Nat.or_self]; split <;> rfl
            · exact this
          have hx : ix (nI p) = p := na_ix (by omega)
          refine b_X3_gatherTogether_12 (hS.ext hFC.ext) ⟨fun q => ?_, fun _ => ⟨na_in (by omega) (by omega), fun q => ?_, fun q => ⟨na_in (by omega) (by omega), na_in (by omega) (by omega), na_in (by omega) (by omega), fun M1 e1 => ?_⟩⟩⟩
          · rw [h0C, na_le (by omega) (by omega)] at q; omega
          · rw [hx, cp, bit0 (by omega) (by omega)] at q
            rw [nI_add]
            refine ih2 (p + 1) C (by omega) hFC (fun x hx2 => ?_)
            rw [hC x hx2]
            by_cases hxp : x = p
            · subst hxp
              rw [if_neg (Nat.lt_irrefl _), if_pos (by omega)]
              show nI (gaR f k x) = nI (if (gaR f k x).testBit k then gaR f k x ||| gaR f k k else gaR f k x)
              rw [if_neg (by rw [q]; decide)]
            · by_cases hlt : x < p
              · rw [if_pos hlt, if_pos (by omega)]
              · rw [if_neg hlt, if_neg (by omega)]
          · rw [hx, cp, bit0 (by omega) (by omega)] at q
            rw [hx, na_ix (by omega), cp, ck, na_or] at e1
            rw [nI_add]
            refine ih2 (p + 1) M1 (by omega) (by rw [e1]; exact hFC.trans (Fr.sI ⟨rfl, by omega⟩)) (fun x hx2 => ?_)
            rw [e1, mI_sI]
            by_cases hxp : x = p
            · subst hxp
              rw [if_pos ⟨rfl, rfl⟩, if_pos (by omega)]
              show _ = nI (if (gaR f k x).testBit k then gaR f k x ||| gaR f k k else gaR f k x)
              rw [if_pos (by simpa using q)]
            · rw [if_neg (fun z => hxp z.2), hC x hx2]
              by_cases hlt : x < p
              · rw [if_pos hlt, if_pos (by omega)]
              · rw [if_neg hlt, if_neg (by omega)]
      refine b_X3_gatherTogether_2 hSB ⟨fun q => ?_, fun _ => inner n 0 B (by omega) hF (fun q hq => by rw [if_neg (by omega)]; exact hB q hq)⟩
      rw [h0B, na_le (by omega) (by omega)] at q; omega
  exact e_X3_gatherTogether (b_X3_gatherTogether_0 hS (outer n 0 M (by omega) Fr.refl hT))
theorem kp_lookAhead {c : Nat} {b : Nat → Bool} (hS : LaS M a) (hn : n ≤ 9) (h0 : mI M a 0 = nI n) (h4 : mI M a 4 = nI (2 ^ n - 1)) (hc : isK M c 14 (2 ^ n)) (hca : c ≠ a) (hT : ∀ s, s < 2 ^ n → mI M c s = nI (if b s then 2 ^ n else 0))
    (h : ∀ B, Fr (fun b' k => b' = c ∧ k < 2 ^ n) M B → (∀ s, s < 2 ^ n → mI B c s = nI (haF b n 0 s)) → Q none B) : Cl X d 0 0 m_X3_lookAhead [vR a, vR c] M Q := by
  have h512 := p9 hn
  have hpos := Nat.two_pow_pos n
  have hb10 : ∀ j s, haF b n j s < 2 ^ 10 := fun j s => Nat.lt_of_lt_of_le haF_lt (Nat.pow_le_pow_right (by decide) (by omega))
  have h210 : (2 : Nat) ^ 10 = 1024 := rfl
  have outer : ∀ u (B : Mem), u ≤ 2 ^ n → Fr (fun b' k => b' = c ∧ k < 2 ^ n) M B → (∀ s, s < 2 ^ n → mI B c s = nI (haF b n (if u ≤ s then 0 else n) s)) → WA X d 0 0 m_X3_lookAhead 5 [some (vR a), some (vR c), some (vI (oD u)), none, none] [] B Q := by
    intro u
    induction u with
    | zero =>
      intro B hu hF hB
      refine b_X3_lookAhead_5 (hS.ext hF.ext) ⟨fun _ => h B hF (fun s hs => ?_), fun q => absurd ((oD_n (by omega)).mpr rfl) q⟩
      have := hB s hs
      rw [if_pos (Nat.zero_le _)] at this; exact this
    | succ u ih =>
      intro B hu hF hB
      have inner : ∀ j (C : Mem), j ≤ n → Fr (fun b' k => b' = c ∧ k < 2 ^ n) M C → (∀ s, s < 2 ^ n → mI C c s = nI (haF b n (if u + 1 ≤ s then 0 else if s = u then j else n) s)) → WA X d 0 0 m_X3_lookAhead 16 [some (vR a), some (vR c), some (vI (nI u)), some (vI (oD j)), none] [] C Q := by
        intro j
        induction j with
        | zero =>
          intro C hj hFC hC
          refine b_X3_lookAhead_16 (hS.ext hFC.ext) ⟨fun _ => ?_, fun q => absurd ((oD_n (by omega)).mpr rfl) q⟩
          rw [oD_d]
          refine ih C (by omega) hFC (fun s hs => ?_)
          rw [hC s hs]
          by_cases h1 : u ≤ s
          · rw [if_pos h1]
            by_cases h2 : u + 1 ≤ s
            · rw [if_pos h2]
            · rw [if_neg h2, if_pos (by omega)]
          · rw [if_neg h1, if_neg (by omega), if_neg (by omega)]
        | succ p jh =>
          intro C hj hFC hC
          have hpp : 2 ^ p ≤ 2 ^ n := Nat.pow_le_pow_right (by decide) (by omega)
          have hpp1 : 2 ^ (p + 1) ≤ 2 ^ n := Nat.pow_le_pow_right (by decide) hj
          have hp2 : 2 ^ (p + 1) = 2 ^ p * 2 := Nat.pow_succ 2 p
          refine b_X3_lookAhead_16 (hS.ext hFC.ext) ⟨fun q => ?_, fun _ => ⟨fun q => ?_, fun q => ?_⟩⟩
          · rw [oD_n (by omega)] at q; omega
          · rw [oD_s, na_shr (by omega) (by omega), na_eq (Nat.lt_of_le_of_lt (Nat.shiftRight_le _ _) (by omega)) (by decide), Nat.shiftRight_eq_div_pow] at q
            have hns : ¬ u < 2 ^ p := fun z => q (Nat.div_eq_of_lt z)
            rw [oD_d]
            refine ih C (by omega) hFC (fun s hs => ?_)
            rw [hC s hs]
            by_cases h1 : u ≤ s
            · rw [if_pos h1]
              by_cases h2 : u + 1 ≤ s
              · rw [if_pos h2]
              · obtain rfl : s = u := by omega
                rw [if_neg h2, if_pos rfl, haF_stop hns]
            · rw [if_neg h1, if_neg (by omega), if_neg (by omega)]
          · rw [oD_s, na_shr (by omega) (by omega), na_eq (Nat.lt_of_le_of_lt (Nat.shiftRight_le _ _) (by omega)) (by decide), Nat.shiftRight_eq_div_pow] at q
            have hlt : u < 2 ^ p := by
              rcases Nat.lt_or_ge u (2 ^ p) with z | z
              · exact z
              · have := Nat.div_pos z (Nat.two_pow_pos p); omega
            have hor : u ||| 2 ^ p < 2 ^ (p + 1) := Nat.or_lt_two_pow (by omega) (by omega)
            have hgt : u + 1 ≤ u ||| 2 ^ p := by
              have hl : u ≤ u ||| 2 ^ p := Nat.left_le_or
              have hr : 2 ^ p ≤ u ||| 2 ^ p := Nat.right_le_or
              omega
            have hk := hFC.ext.1 _ _ _ hc
            rw [oD_s]
            rw [na_1shl (by omega), na_or]
            refine ⟨2 ^ n, hk, na_in (by omega) (by omega), na_in (by omega) (by omega), fun x1 ex => ⟨na_in (by omega) (by omega), na_in (by omega) (by omega), fun M1 e1 => ?_⟩⟩
            have c1 := hC u (by omega)
            rw [if_neg (by omega), if_pos rfl] at c1
            have c2 := hC (u ||| 2 ^ p) (by omega)
            rw [if_pos hgt] at c2
            have g1 := hb10 (p + 1) u
            have g2 := hb10 0 (u ||| 2 ^ p)
            rw [na_ix (by omega), na_ix (by omega), c1, c2, na_or] at ex
            have hx10 : haF b n (p + 1) u ||| haF b n 0 (u ||| 2 ^ p) < 2 ^ 10 := Nat.or_lt_two_pow g1 g2
            have hbit : (haF b n (p + 1) u ||| haF b n 0 (u ||| 2 ^ p)).testBit (p + 1) = hpF b n (n - p) u := by
              rw [Nat.testBit_or, haF_bit (Nat.le_refl _) hj (by omega), haF_bit (Nat.zero_le _) hj hor, show n - p = (n - (p + 1)) + 1 by omega]
              show _ = (hpF b n (n - (p + 1)) u || hpF b n (n - (p + 1)) (u ||| 2 ^ (n - ((n - (p + 1)) + 1))))
              rw [show n - ((n - (p + 1)) + 1) = p by omega]
            rw [ex, nI_add, na_ix (by omega), c1, na_bit (by omega) (by omega), hbit, na_shl _ (by omega), na_or] at e1
            have e2 : (if hpF b n (n - p) u = true then 1 else 0 : Nat) <<< p = if hpF b n (n - p) u then 2 ^ p else 0 := by
              split
              · exact Nat.one_shiftLeft p
              · exact Nat.zero_shiftLeft p
            rw [e2, haF_step (by omega) hlt] at e1
            rw [oD_d]
            refine jh M1 (by omega) (by rw [e1]; exact hFC.trans (Fr.sI ⟨rfl, by omega⟩)) (fun s hs => ?_)
            rw [e1, mI_sI]
            by_cases hsu : s = u
            · subst hsu
              rw [if_pos ⟨rfl, rfl⟩, if_neg (by omega), if_pos rfl]
            · rw [if_neg (fun z => hsu z.2), hC s hs, if_neg hsu, if_neg hsu]
      refine b_X3_lookAhead_5 (hS.ext hF.ext) ⟨fun q => ?_, fun _ x1 ex => ?_⟩
      · rw [oD_n (by omega)] at q; omega
      · rw [(hF.at (by omega)).trans h0] at ex
        have ex : x1 = oD n := by
          rw [ex, show nI n - nI 1 = nI n + (-1) by rw [Int32.sub_eq_add_neg]; congr 1, oD_d]
        rw [ex, oD_s]
        refine inner n B (Nat.le_refl _) hF (fun s hs => ?_)
        rw [hB s hs]
        by_cases h1 : u + 1 ≤ s
        · rw [if_pos h1, if_pos h1]
        · rw [if_neg h1, if_neg h1]
          split <;> rfl
  refine e_X3_lookAhead (b_X3_lookAhead_0 hS (fun x1 ex => ?_))
  have e : x1 = oD (2 ^ n) := by rw [ex, h4]; unfold oD; rw [if_neg (by omega)]
  rw [e]
  refine outer (2 ^ n) M (Nat.le_refl _) Fr.refl (fun s hs => ?_)
  rw [if_neg (by omega), haF_top hs]; exact hT s hs
end HANG
