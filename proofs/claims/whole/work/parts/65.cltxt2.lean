/-! THE CLASS: a land's text, the rest -/
section LTXT
variable {X : Cx} {d : Nat} {z : Nat} {t : Nat → Nat} {M : Mem} {Q : Option AV → Mem → Prop}
theorem kp_pair {a i p n : Nat} (hd : 3 ≤ d) (hS : LtS M 4) (hT : kT M z t) (hi : i < z) (ha : a = 6 ∨ a = 7) (hp : p < n) (hn : 2 ≤ n ∧ n ≤ 9) (h0 : mI M 4 0 = nI n)
    (h1 : ∀ f, num z t 0 (n - 1) (some p) (i + 1) = .inl f → ∀ j, Q (some (vI (nI 0))) (kst M (some f) j))
    (h2 : ∀ q e, num z t 0 (n - 1) (some p) (i + 1) = .inr (q, e) → Q (some (vI (nI 1))) (kst (sI (sI M a p (mI M a p ||| nI (1 <<< q))) a q (mI M a q ||| nI (1 <<< p))) none e)) : Cl X d 0 0 m_X4_readPair [vR 4, vR 2, vI (nI p), vR a] (kst M none i) Q := by
  refine e_X4_readPair (b_X4_readPair_0 (M := kst M none i) hS (by omega) ⟨hT.1, kp_pass hT.1 ⟨rfl, ExtK, ?_⟩⟩)
  rw [kst_o (by decide), h0, na_sub (by omega)]
  refine kp_number (but := some p) (by omega) hT (by omega) (by decide) (by omega) (fun b hb => (by cases hb; omega)) (fun f hf j => ⟨_, rfl, ExtK, fun q => absurd rfl q, fun _ => h1 f hf j⟩) (fun q e hf => ⟨_, rfl, ExtK, fun _ => ?_, fun q2 => absurd q2 (na_m1 (by have := (num_ok hf).2.1; omega))⟩)
  obtain ⟨a1, a2, a3, a4, a5⟩ := num_ok hf
  have hne : q ≠ p := fun z => a3 (by rw [z])
  have hk : isK (kst M none e) a 14 9 := by
    rcases ha with rfl | rfl
    · exact hS.2.2.1.2
    · exact hS.2.2.2.2
  refine ⟨9, hk, na_in (by omega) (by omega), na_in (by omega) (by omega), fun M3 e3 => ⟨na_in (by omega) (by omega), na_in (by omega) (by omega), fun M4 e4 => ?_⟩⟩
  have ha2 : a ≠ 2 := by omega
  rw [na_ix (by omega), na_shl 1 (by omega), kst_o (by omega), kst_sI ha2] at e3
  rw [na_ix (by omega), na_shl 1 (by omega), e3, kst_o (by omega), mI_sI_i hne, kst_sI ha2] at e4
  rw [e4]
  exact h2 q e hf
theorem or3 (a b c : Nat) : (a ||| b) ||| c = (a ||| c) ||| b := by rw [Nat.or_assoc, Nat.or_comm b c, ← Nat.or_assoc]
theorem kL.pair6 {L : LandT} {p q : Nat} (h : kL M L) (hne : q ≠ p) (hp : p < 9) (hq : q < 9) : kL (sI (sI M 6 p (mI M 6 p ||| nI (1 <<< q))) 6 q (mI M 6 q ||| nI (1 <<< p))) (L.1, L.2.1, L.2.2.1, L.2.2.2.1, LdV L, pairUp (LdB L) p q, LdT L) := by
  obtain ⟨k1, k2, k3, k4, k5⟩ := h
  refine ⟨?_, ?_, ?_, ?_, fun x hx => ?_⟩
  · rw [mI_sI_a (by decide), mI_sI_a (by decide)]; exact k1
  · rw [mI_sI_a (by decide), mI_sI_a (by decide)]; exact k2
  · rw [mI_sI_a (by decide), mI_sI_a (by decide)]; exact k3
  · rw [mI_sI_a (by decide), mI_sI_a (by decide)]; exact k4
  obtain ⟨q1, q2, q3⟩ := k5 x hx
  refine ⟨fun k hk => ?_, ?_, ?_⟩
  · rw [mI_sI_a (by decide), mI_sI_a (by decide)]; exact q1 k hk
  · show _ = nI (pairUp (LdB L) p q x)
    rw [mI_sI, mI_sI, (k5 p hp).2.1, (k5 q hq).2.1, na_or, na_or]
    unfold pairUp upm
    by_cases e1 : x = q
    · subst e1; rw [if_pos ⟨rfl, rfl⟩, if_pos rfl, if_neg hne]
    · rw [if_neg (fun z => e1 z.2), if_neg e1]
      by_cases e2 : x = p
      · subst e2; rw [if_pos ⟨rfl, rfl⟩, if_pos rfl]
      · rw [if_neg (fun z => e2 z.2), if_neg e2]; exact q2
  · rw [mI_sI_a (by decide), mI_sI_a (by decide)]; exact q3
theorem kL.pair7 {L : LandT} {p q : Nat} (h : kL M L) (hne : q ≠ p) (hp : p < 9) (hq : q < 9) : kL (sI (sI M 7 p (mI M 7 p ||| nI (1 <<< q))) 7 q (mI M 7 q ||| nI (1 <<< p))) (L.1, L.2.1, L.2.2.1, L.2.2.2.1, LdV L, LdB L, pairUp (LdT L) p q) := by
  obtain ⟨k1, k2, k3, k4, k5⟩ := h
  refine ⟨?_, ?_, ?_, ?_, fun x hx => ?_⟩
  · rw [mI_sI_a (by decide), mI_sI_a (by decide)]; exact k1
  · rw [mI_sI_a (by decide), mI_sI_a (by decide)]; exact k2
  · rw [mI_sI_a (by decide), mI_sI_a (by decide)]; exact k3
  · rw [mI_sI_a (by decide), mI_sI_a (by decide)]; exact k4
  obtain ⟨q1, q2, q3⟩ := k5 x hx
  refine ⟨fun k hk => ?_, ?_, ?_⟩
  · rw [mI_sI_a (by decide), mI_sI_a (by decide)]; exact q1 k hk
  · rw [mI_sI_a (by decide), mI_sI_a (by decide)]; exact q2
  · show _ = nI (pairUp (LdT L) p q x ||| 1 <<< x)
    rw [mI_sI, mI_sI, (k5 p hp).2.2, (k5 q hq).2.2, na_or, na_or]
    unfold pairUp upm
    by_cases e1 : x = q
    · subst e1; rw [if_pos ⟨rfl, rfl⟩, if_pos rfl, if_neg hne, or3]
    · rw [if_neg (fun z => e1 z.2), if_neg e1]
      by_cases e2 : x = p
      · subst e2; rw [if_pos ⟨rfl, rfl⟩, if_pos rfl, or3]
      · rw [if_neg (fun z => e2 z.2), if_neg e2]; exact q3
theorem kp_sentence {i : Nat} {L : LandT} (hd : 4 ≤ d) (hS : LtS M 4) (hT : kT M z t) (hi : i ≤ z) (hL : kL M L) (hn : 2 ≤ L.1 ∧ L.1 ≤ 9)
    (h1 : (sentT z t L i).1 = none → ∀ B, Fr lxS M B → kL B (sentT z t L i).2.2 → Q (some (vI (nI 1))) (kst B none (sentT z t L i).2.1))
    (h2 : ∀ f, (sentT z t L i).1 = some f → ∀ B j, Fr lxS M B → Q (some (vI (nI 0))) (kst B (some f) j)) : Cl X d 0 0 m_X4_readSentence [vR 4, vR 2] (kst M none i) Q := by
  have hz := hT.2.2.1
  have hb := chr_lt (i := i) hT
  have hs := skp_le z t i
  unfold sentT at h1 h2
  dsimp only at h1 h2
  have pos : ∀ {j c : Nat}, chr z t j = c → c ≠ 0 → skp z t j < z := fun hc h0 => chr_pos hc h0
  refine e_X4_readSentence (b_X4_readSentence_0 (M := kst M none i) hS (by omega) ⟨hT.1, kp_peek hT hi ⟨_, rfl, ExtK, fun q60 => ⟨fun q62 => ?_, fun q62 => ?_⟩, fun q60 => ?_⟩⟩)
  · rw [na_eq (by omega) (by decide)] at q60 q62
    rw [if_neg q60, if_neg q62] at h1 h2
    rw [kst_o (by decide), hL.1, na_sub (by omega)]
    refine kp_number (but := none) (by omega) hT (by omega) (by decide) (by omega) (fun b hb => (by cases hb)) (fun f hf j => ⟨_, rfl, ExtK, fun q => absurd rfl q, fun _ => ?_⟩) (fun p e hf => ⟨_, rfl, ExtK, fun _ => ?_, fun q => absurd q (na_m1 (by have := (num_ok hf).2.1; omega))⟩)
    · have r1 := numT_l hf
      rw [r1, if_neg (by simp)] at h2
      exact h2 f rfl M j Fr.refl
    rw [numT_r hf] at h1 h2
    dsimp only at h1 h2
    rw [if_pos rfl] at h1 h2
    obtain ⟨a1, a2, a3, a4, a5⟩ := num_ok hf
    have hb2 := chr_lt (i := e) hT
    refine kp_peek hT a5 ⟨_, rfl, ExtK, fun q58 => ⟨fun q45 => ⟨fun q61 => ?_, fun q61 => ?_⟩, fun q45 => ?_⟩, fun q58 => ?_⟩
    · rw [na_eq (by omega) (by decide)] at q58 q45 q61
      rw [if_neg q58, if_neg q45, if_neg q61] at h2
      rw [kst_2]
      exact kp_refuse hT.1 ⟨_, rfl, ExtK, bI_B false, h2 _ rfl M _ Fr.refl⟩
    · rw [na_eq (by omega) (by decide)] at q58 q45 q61
      rw [if_neg q58, if_neg q45, if_pos q61] at h1 h2
      dsimp only at h1 h2
      refine kp_pair (n := L.1) (by omega) hS hT (pos q61 (by decide)) (Or.inr rfl) (by omega) hn hL.1 (fun f hf2 j => ⟨_, rfl, ExtK, bI_B false, ?_⟩) (fun q e2 hf2 => ?_)
      · exact h2 f (numT_l hf2) M j Fr.refl
      · rw [numT_r hf2] at h1
        obtain ⟨b1, b2, b3, b4, b5⟩ := num_ok hf2
        have hFm : Fr lxS M (sI (sI M 7 p (mI M 7 p ||| nI (1 <<< q))) 7 q (mI M 7 q ||| nI (1 <<< p))) := (Fr.sI (Or.inr (Or.inr (Or.inr rfl)))).trans (Fr.sI (Or.inr (Or.inr (Or.inr rfl))))
        exact ⟨_, rfl, ExtKK hFm.ext, bI_B true, h1 rfl _ hFm (hL.pair7 (fun z => b3 (by rw [z])) (by omega) (by omega))⟩
    · rw [na_eq (by omega) (by decide)] at q58 q45
      rw [if_neg q58, if_pos q45] at h1 h2
      dsimp only at h1 h2
      refine kp_pair (n := L.1) (by omega) hS hT (pos q45 (by decide)) (Or.inl rfl) (by omega) hn hL.1 (fun f hf2 j => ⟨_, rfl, ExtK, bI_B false, ?_⟩) (fun q e2 hf2 => ?_)
      · exact h2 f (numT_l hf2) M j Fr.refl
      · rw [numT_r hf2] at h1
        obtain ⟨b1, b2, b3, b4, b5⟩ := num_ok hf2
        have hFm : Fr lxS M (sI (sI M 6 p (mI M 6 p ||| nI (1 <<< q))) 6 q (mI M 6 q ||| nI (1 <<< p))) := (Fr.sI (Or.inr (Or.inr (Or.inl rfl)))).trans (Fr.sI (Or.inr (Or.inr (Or.inl rfl))))
        exact ⟨_, rfl, ExtKK hFm.ext, bI_B true, h1 rfl _ hFm (hL.pair6 (fun z => b3 (by rw [z])) (by omega) (by omega))⟩
    · rw [na_eq (by omega) (by decide)] at q58
      rw [if_pos q58] at h1 h2
      dsimp only at h1 h2
      have hk := pos q58 (by decide)
      refine kp_pass hT.1 ⟨rfl, ExtK, ?_⟩
      rw [pk_mul, Nat.mul_comm]
      refine kp_votes (by omega) hS hT (by omega) (by omega) hL (fun hw B hF hK => ⟨_, rfl, ExtKK hF.ext, bI_B true, h1 hw B hF hK⟩) (fun f hw B j hF => ⟨_, rfl, ExtKK hF.ext, bI_B false, h2 f hw B j hF⟩)
  · rw [na_eq (by omega) (by decide)] at q60 q62
    rw [if_neg q60, if_pos q62] at h1 h2
    dsimp only at h1 h2
    have hk := pos q62 (by decide)
    refine kp_pass hT.1 ⟨rfl, ExtK, ?_⟩
    refine kp_number (but := none) (by omega) hT (by omega) (by decide) (by decide) (fun b hb => (by cases hb)) (fun f hf j => ⟨_, rfl, ExtK, fun M11 e11 => ?_⟩) (fun v e hf => ⟨_, rfl, ExtK, fun M11 e11 => ?_⟩)
    · rw [kst_sI (by decide)] at e11
      rw [e11]
      refine ⟨fun _ => h2 f (numT_l hf) _ j (Fr.sI (Or.inl ⟨rfl, by decide⟩)), fun q => absurd ?_ q⟩
      rw [kst_o (by decide), mI_sI_eq]
    · rw [kst_sI (by decide)] at e11
      rw [e11]
      have hv := (num_ok hf).2.1
      rw [numT_r hf] at h1
      refine ⟨fun q => absurd ?_ (na_m1 (a := v) (by omega)), fun _ => h1 rfl _ (Fr.sI (Or.inl ⟨rfl, by decide⟩)) ?_⟩
      · rw [kst_o (by decide), mI_sI_eq] at q; exact q
      · obtain ⟨k1, k2, k3, k4, k5⟩ := hL
        exact ⟨by rw [mI_sI_i (by decide)]; exact k1, by rw [mI_sI_i (by decide)]; exact k2, by rw [mI_sI_eq], by rw [mI_sI_i (by decide)]; exact k4, fun x hx => ⟨fun k hk => by rw [mI_sI_a (by decide)]; exact (k5 x hx).1 k hk, by rw [mI_sI_a (by decide)]; exact (k5 x hx).2.1, by rw [mI_sI_a (by decide)]; exact (k5 x hx).2.2⟩⟩
  · rw [na_eq (by omega) (by decide)] at q60
    rw [if_pos q60] at h1 h2
    dsimp only at h1 h2
    have hk := pos q60 (by decide)
    refine kp_pass hT.1 ⟨rfl, ExtK, ?_⟩
    refine kp_number (but := none) (by omega) hT (by omega) (by decide) (by decide) (fun b hb => (by cases hb)) (fun f hf j => ⟨_, rfl, ExtK, fun M11 e11 => ?_⟩) (fun v e hf => ⟨_, rfl, ExtK, fun M11 e11 => ?_⟩)
    · rw [kst_sI (by decide)] at e11
      rw [e11]
      refine ⟨fun _ => h2 f (numT_l hf) _ j (Fr.sI (Or.inl ⟨rfl, by decide⟩)), fun q => absurd ?_ q⟩
      rw [kst_o (by decide), mI_sI_eq]
    · rw [kst_sI (by decide)] at e11
      rw [e11]
      have hv := (num_ok hf).2.1
      rw [numT_r hf] at h1
      refine ⟨fun q => absurd ?_ (na_m1 (a := v) (by omega)), fun _ => h1 rfl _ (Fr.sI (Or.inl ⟨rfl, by decide⟩)) ?_⟩
      · rw [kst_o (by decide), mI_sI_eq] at q; exact q
      · obtain ⟨k1, k2, k3, k4, k5⟩ := hL
        exact ⟨by rw [mI_sI_i (by decide)]; exact k1, by rw [mI_sI_i (by decide)]; exact k2, by rw [mI_sI_i (by decide)]; exact k3, by rw [mI_sI_eq], fun x hx => ⟨fun k hk => by rw [mI_sI_a (by decide)]; exact (k5 x hx).1 k hk, by rw [mI_sI_a (by decide)]; exact (k5 x hx).2.1, by rw [mI_sI_a (by decide)]; exact (k5 x hx).2.2⟩⟩
theorem minI_n {a b : Nat} (ha : a < 2 ^ 31) (hb : b < 2 ^ 31) : minI (nI a) (nI b) = nI (min a b) := by
  unfold minI
  by_cases q : a ≤ b
  · rw [if_neg (fun z => by have := (na_lt hb ha).mp z; omega), Nat.min_eq_left q]
  · rw [if_pos ((na_lt hb ha).mpr (by omega)), Nat.min_eq_right (by omega)]
theorem kp_readLand (hd : 6 ≤ d) (hS : LtS M 4) (hT : kT M z t)
    (h : ∀ B i, Fr lxS M B → ((landT z t).1 = none → kL B (landT z t).2) → Q (some (vI (oI (landT z t).1))) (kst B (landT z t).1 i)) : Cl X d 0 0 m_X4_read [vR 4, vR 2] M Q := by
  have hz := hT.2.2.1
  refine e_X4_read (b_X4_read_0 hS (by omega) (kp_clear hS (by omega) (fun B hF _ hclr => ⟨rfl, hF.ext, (lx_kT hT hF).1, ?_⟩)))
  have hTB := lx_kT hT hF
  have hSB := hS.ext hF.ext
  refine kp_rewind hTB.1 ⟨rfl, kst_fr.ext, ?_⟩
  -- the end: with a fault
  have bad : ∀ f B j k, Fr lxS M B → (landT z t).1 = some f → WA X d 0 0 m_X4_read 16 [some (vR 4), some (vR 2), some (vI (nI 0)), some (vI (nI k))] [] (kst B (some f) j) Q := fun f B2 j k hF2 he => by
    have g : Q (some (vI (mI (kst B2 (some f) j) 2 3))) (kst B2 (some f) j) := by
      have := h B2 j hF2 (fun q => (by rw [he] at q; cases q))
      rw [he] at this
      rw [kst_3]; exact this
    exact b_X4_read_16 (M := kst B2 (some f) j) (hS.ext hF2.ext) (by omega) ⟨fun _ => ⟨(lx_kT hT hF2).1, g⟩, fun _ => ⟨fun _ => ⟨(lx_kT hT hF2).1, g⟩, fun q => absurd rfl q⟩⟩
  -- the sentences
  have key : ∀ f i k (B : Mem) (L : LandT), z - i < f → i ≤ z → k ≤ i → Fr lxS M B → kL B L → LdOK L → sentsT z t f none i L = landT z t → WA X d 0 0 m_X4_read 16 [some (vR 4), some (vR 2), some (vI (nI 1)), some (vI (nI k))] [] (kst B none i) Q := by
    intro f
    induction f with
    | zero => intro i k B L h1; omega
    | succ f ih =>
      intro i k B L h1 hi hk hF hL hO he
      have hTB := lx_kT hT hF
      have hs := skp_ge z t i
      have hs2 := skp_le z t i
      have hb := chr_lt (i := i) hTB
      have done : z ≤ skp z t i → ∀ j, Q (some (vI (mI (kst B none j) 2 3))) (kst B none j) := fun hq j => by
        have hc : ¬ chr z t i = 59 := fun z2 => by have := chr_pos z2 (by decide); omega
        unfold sentsT at he
        rw [if_neg hc, if_neg (by omega)] at he
        have := h B j hF (fun _ => by rw [← he]; exact hL)
        rw [kst_3]
        rw [← he] at this
        exact this
      refine b_X4_read_16 (M := kst B none i) (hS.ext hF.ext) (by omega) ⟨fun q => ⟨hTB.1, ?_⟩, fun _ => ⟨fun q => absurd q (by decide), fun _ => ⟨hTB.1, kp_peek hTB hi ⟨_, rfl, ExtK, fun q => ?_, fun q => ?_⟩⟩⟩⟩
      · rw [na_le (by omega) (by omega)] at q
        exact done (by omega) i
      · rw [na_eq (by omega) (by omega), chr_0 hTB] at q
        exact done q _
      · rw [na_eq (by omega) (by omega), chr_0 hTB] at q
        unfold sentsT at he
        have hss : skp z t (skp z t i) = skp z t i := skp_skp z t i
        have hcc : chr z t (skp z t i) = chr z t i := by unfold chr; rw [hss]
        refine kp_take (by omega) hTB (by omega) (by decide) (fun hc => ⟨_, rfl, ExtK, fun q2 => absurd q2 (by decide), fun _ => ?_⟩) (fun hc => ⟨_, rfl, ExtK, fun _ => ?_, fun q2 => absurd rfl q2⟩)
        · rw [hcc] at hc
          rw [if_pos hc] at he
          rw [hss]
          refine kp_sentence (by omega) (hS.ext hF.ext) hTB (by omega) hL hO.1 (fun hw B2 hF2 hL2 => ⟨_, rfl, ExtKK hF2.ext, fun q2 => absurd q2 (by decide), fun _ => ?_⟩) (fun g hw B2 j hF2 => ⟨_, rfl, ExtKK hF2.ext, fun _ => ?_, fun q2 => absurd rfl q2⟩)
          · obtain ⟨o1, o2, o3⟩ := sentT_ok hO hw
            rw [nI_add]
            rw [hw] at he
            exact ih _ (k + 1) B2 _ (by omega) o2 (by omega) (hF.trans hF2) hL2 o3 he
          · rw [nI_add]
            refine bad g B2 j (k + 1) (hF.trans hF2) ?_
            rw [← he, hw]
            cases f with
            | zero => rfl
            | succ f => rfl
        · rw [hcc] at hc
          rw [if_neg hc, if_pos (by omega)] at he
          rw [nI_add, hss]
          exact bad _ B _ (k + 1) hF (by rw [← he])
  have hld : landT z t = sentsT z t 301 (numT z t 1 (min 4 (numT z t 2 9 none none 0).1) none (signT z t 47 (numT z t 2 9 none none 0).2.1 (numT z t 2 9 none none 0).2.2).1 (signT z t 47 (numT z t 2 9 none none 0).2.1 (numT z t 2 9 none none 0).2.2).2).2.1
    (numT z t 1 (min 4 (numT z t 2 9 none none 0).1) none (signT z t 47 (numT z t 2 9 none none 0).2.1 (numT z t 2 9 none none 0).2.2).1 (signT z t 47 (numT z t 2 9 none none 0).2.1 (numT z t 2 9 none none 0).2.2).2).2.2 (L0 (numT z t 2 9 none none 0).1 (numT z t 1 (min 4 (numT z t 2 9 none none 0).1) none (signT z t 47 (numT z t 2 9 none none 0).2.1 (numT z t 2 9 none none 0).2.2).1 (signT z t 47 (numT z t 2 9 none none 0).2.1 (numT z t 2 9 none none 0).2.2).2).1) := rfl
  refine e_X4_readSize (b_X4_readSize_0 (M := kst B none 0) hSB (by omega) ⟨hTB.1, ?_⟩)
  refine kp_number (but := none) (by omega) hTB (by omega) (by decide) (by decide) (fun b hb => (by cases hb)) (fun f hf j => ⟨_, rfl, ExtK, fun M2 e2 => ⟨fun _ => ⟨_, rfl, ?_, ?_⟩, fun q => absurd ?_ q⟩⟩) (fun n e hf => ⟨_, rfl, ExtK, fun M2 e2 => ⟨fun q => absurd ?_ (na_m1 (a := n) (by have := (num_ok hf).2.1; omega)), fun _ => ?_⟩⟩)
  · rw [e2, kst_sI (by decide)]; exact ExtKK (Fr.sI (S := fun _ _ => True) trivial).ext
  · rw [e2, kst_sI (by decide)]
    refine bad f _ j 0 (hF.trans (Fr.sI (Or.inl ⟨rfl, by decide⟩))) ?_
    have := numT_l hf
    rw [hld, this]
    rfl
  · rw [e2, mI_sI_eq]
  · rw [e2, mI_sI_eq] at q; exact q
  rw [kst_sI (by decide)] at e2
  obtain ⟨a1, a2, a3, a4, a5⟩ := num_ok hf
  have hF2 : Fr (fun a k => a = 4 ∧ k < 2) B (sI B 4 0 (nI n)) := Fr.sI ⟨rfl, by decide⟩
  have hF2x : Fr lxS M (sI B 4 0 (nI n)) := hF.trans (hF2.mono (fun a k q => Or.inl ⟨q.1, by omega⟩))
  have hT2 := lx_kT hT hF2x
  rw [numT_r hf] at hld
  dsimp only at hld
  rw [e2]
  refine kp_take (by omega) hT2 a5 (by decide) (fun hc => ⟨_, rfl, ExtK, fun _ => ?_, fun q => absurd q (by decide)⟩) (fun hc => ⟨_, rfl, ExtK, fun q => absurd rfl q, fun _ => ⟨_, rfl, ExtKK hF2.ext, ?_⟩⟩)
  rotate_left
  · have hs : ¬ (skp z t e < z ∧ t (skp z t e) = 47) := fun q => hc (by unfold chr; rw [if_pos q.1]; exact q.2)
    have es : signT z t 47 none e = (some (skp z t e), skp z t e + 1) := by unfold signT; dsimp only; rw [if_neg hs]
    rw [es] at hld
    exact bad _ _ _ 0 hF2x (by rw [hld]; rfl)
  have hs : skp z t e < z ∧ t (skp z t e) = 47 := by
    unfold chr at hc
    split at hc
    · exact ⟨by assumption, hc⟩
    · cases hc
  have es : signT z t 47 none e = (none, skp z t e + 1) := by unfold signT; dsimp only; rw [if_pos hs]
  rw [es] at hld
  dsimp only at hld
  rw [kst_o (by decide), mI_sI_eq, minI_n (by decide) (by omega)]
  refine kp_number (but := none) (by omega) hT2 (by omega) (by decide) (by omega) (fun b hb => (by cases hb)) (fun f hf2 j => ⟨_, rfl, ExtK, fun M5 e5 => ⟨fun _ => ⟨_, rfl, ?_, ?_⟩, fun q => absurd ?_ q⟩⟩) (fun s e2' hf2 => ⟨_, rfl, ExtK, fun M5 e5 => ⟨fun q => absurd ?_ (na_m1 (a := s) (by have := (num_ok hf2).2.1; omega)), fun _ => ⟨_, rfl, ?_, ?_⟩⟩⟩)
  · rw [e5, kst_sI (by decide)]; exact ExtKK (hF2.trans (Fr.sI ⟨rfl, by decide⟩)).ext
  · rw [e5, kst_sI (by decide)]
    refine bad f _ j 0 (hF2x.trans (Fr.sI (Or.inl ⟨rfl, by decide⟩))) ?_
    have := numT_l hf2
    rw [hld, this]
    rfl
  · rw [e5, mI_sI_eq]
  · rw [e5, mI_sI_eq] at q; exact q
  · rw [e5, kst_sI (by decide)]; exact ExtKK (hF2.trans (Fr.sI ⟨rfl, by decide⟩)).ext
  · rw [e5, kst_sI (by decide)]
    rw [numT_r hf2] at hld
    obtain ⟨b1, b2, b3, b4, b5⟩ := num_ok hf2
    have hF5 : Fr (fun a k => a = 4 ∧ k < 2) B (sI (sI B 4 0 (nI n)) 4 1 (nI s)) := hF2.trans (Fr.sI ⟨rfl, by decide⟩)
    refine key 301 e2' 0 _ (L0 n s) (by omega) b5 (by omega) (hF.trans (hF5.mono (fun a k q => Or.inl ⟨q.1, by omega⟩))) (hclr _ hF5 n s ?_ ?_) (L0_ok ⟨a1, a2⟩ ⟨b1, by omega, by omega⟩) hld.symm
    · rw [mI_sI_i (by decide), mI_sI_eq]
    · rw [mI_sI_eq]
end LTXT
