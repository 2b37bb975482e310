/-! THE REFERENCE seeks halves -/
theorem hvT_abs {L : LandT} {g : Nat} {sm : Bool} {o m : Nat} {st : Option (Int × Nat)} (h : st.isSome = true) : ∀ xs : List Nat, xs.foldl (hvT L g sm false o m) st = st
  | [] => rfl
  | x :: xs => by
    rw [List.foldl_cons]
    have : hvT L g sm false o m st x = st := by
      unfold hvT
      cases st with
      | none => cases h
      | some q => split <;> rfl
    rw [this]; exact hvT_abs h xs
theorem sub_b (b : Bool) : nI 1 - bI b = bI (!b) := by cases b <;> decide
theorem p8 {n : Nat} (h : n ≤ 9) : 8 ^ n ≤ 134217728 := Nat.pow_le_pow_right (n := 8) (by decide) h
section SEEK
variable {X : Cx} {l g o m : Nat} {sm sk : Bool} {L : LandT}
theorem skR.fr {M B : Mem} {st : Option (Int × Nat)} (h : skR M sk sm st) (he : ∀ k, mI B 75 k = mI M 75 k) : skR B sk sm st := by
  unfold skR at *
  simp only [he]; exact h
theorem sp_weighHalves {d c : Nat} {M : Mem} {Q : Option AV → Mem → Prop} {st : Option (Int × Nat)} (hd : 9 ≤ d) (hH : rH M l L) (hg : sk = true → mI M 75 36 = nI g ∧ g < 3) (hm : m ≤ 8) (hc : c < 2 ^ 31) (hP : ∀ h, h < m → mI M 93 h = nI (sOB 3 L.1 c o h) ∧ 1 ≤ sOB 3 L.1 c o h) (hk : skR M sk sm st)
    (h : ∀ B : Mem, Fr hvS M B → (∀ h, mI B 93 h = mI M 93 h) → skR B sk sm (hvT L g sm sk o m st c) → Q none B) : Cl X d 0 0 m_X11_weighHalves [vR 75, vI (nI c), vI (nI m)] M Q := by
  have hb := hH.b
  have h512 := p9 hb.2.1
  have hPP : ∀ h, h < m → mI M 93 h = nI (sOB 3 L.1 c o h) ∧ sOB 3 L.1 c o h < 2 ^ L.1 ∧ 1 ≤ sOB 3 L.1 c o h := fun h hh => ⟨(hP h hh).1, sOB_lt _ _ _ _ _, (hP h hh).2⟩
  have nok : okH L o m c = false → Q none M := fun he => by
    refine h M Fr.refl (fun _ => rfl) ?_
    unfold hvT; rw [he]; exact hk
  have key : ∀ j s, s + j = m → (∀ s', s' < s → faL L (sOB 3 L.1 c o s') ≠ 2) → WA X d 0 0 m_X11_weighHalves 2 [some (vR 75), some (vI (nI c)), some (vI (nI m)), some (vI (nI s))] [] M Q := by
    intro j
    induction j with
    | zero =>
      intro s hs hall
      obtain rfl : s = m := by omega
      refine b_X11_weighHalves_2 hH.1 (by omega) ⟨fun _ => sp_canPair hH hm hPP 5 0 _ _ (by omega) (by decide) (by decide) ⟨_, rfl, Ext.refl _, fun q => ?_, fun q => ?_⟩, fun q => absurd (by rw [na_le (by omega) (by omega)]; omega) q⟩
      · have q := bI_n0.mp q
        have hok : okH L o s c = true := by
          unfold okH
          rw [q, decide_eq_true hall]; rfl
        obtain ⟨k1, k2, k3, k4⟩ := hk
        refine ⟨fun q2 => ?_, fun q2 => ?_⟩
        · rw [k1] at q2
          have q2 := bI_n0.mp q2
          subst q2
          obtain ⟨g1, g2⟩ := hg rfl
          rw [k2 rfl, sub_b]
          have hpv : (pvB L (sOB 3 L.1 c o) s g (!sm) 5 0).isSome = true := by rw [← cpB_pv]; exact q
          refine sp_pairValue hH g1 g2 hm hPP 5 0 _ _ (by omega) (by omega) (by decide) (by decide) ⟨_, rfl, Ext.refl _, ?_⟩
          obtain ⟨v, hv⟩ := Option.isSome_iff_exists.mp hpv
          have hvb := pvB_b _ _ v hv
          rw [hv, show oZ (some v) = zI v from rfl]
          have w101 : hvT L g sm true o s st c = some (v, c) → WA X d 0 0 m_X11_weighHalves 101 [some (vR 75), some (vI (nI c)), none, some (vI (zI v))] [] M Q := fun he => by
            refine b_X11_weighHalves_101 hH.1 (fun M1 e1 M2 e2 M3 e3 => ?_)
            rw [he] at h
            refine h M3 ?_ (fun k => ?_) ⟨?_, fun _ => ?_, ?_, fun _ q0 hq0 => ?_⟩
            · rw [e3, e2, e1]
              exact ((Fr.sI (Or.inr ⟨rfl, by omega⟩)).trans (Fr.sI (Or.inr ⟨rfl, by omega⟩))).trans (Fr.sI (Or.inr ⟨rfl, by omega⟩))
            · rw [e3, mI_sI_a (by decide), e2, mI_sI_a (by decide), e1, mI_sI_a (by decide)]
            · rw [e3, mI_sI_i (by decide), e2, mI_sI_i (by decide), e1, mI_sI_i (by decide)]; exact k1
            · rw [e3, mI_sI_i (by decide), e2, mI_sI_i (by decide), e1, mI_sI_i (by decide)]; exact k2 rfl
            · rw [e3, mI_sI_i (by decide), e2, mI_sI_i (by decide), e1, mI_sI_eq]; rfl
            · cases hq0
              refine ⟨?_, ?_, by dsimp only; omega, by dsimp only; omega⟩
              · rw [e3, mI_sI_i (by decide), e2, mI_sI_eq]
              · rw [e3, mI_sI_eq]
          unfold hvT at w101 h
          simp only [hok, hv, Option.getD_some, if_true] at w101 h
          refine ⟨fun q3 => ?_, fun q3 => ?_⟩
          · rw [k3] at q3
            have q3 := bI_0.mp q3
            cases st with
            | some y => cases q3
            | none => exact w101 rfl
          · rw [k3] at q3
            have q3 := bI_n0.mp q3
            cases st with
            | none => cases q3
            | some y =>
              obtain ⟨y1, y2, y3, y4⟩ := k4 rfl y rfl
              rw [k2 rfl, y1]
              have stay : ¬ (if sm = true then y.1 < v else v < y.1) → Q none M := fun hn => by
                dsimp only at h
                rw [if_neg hn] at h
                exact h M Fr.refl (fun _ => rfl) ⟨k1, k2, k3, k4⟩
              dsimp only at w101
              refine ⟨fun q4 => ⟨fun q5 => ?_, fun q5 => ?_⟩, fun q4 => ⟨fun q5 => ?_, fun q5 => ?_⟩⟩
              · rw [zI_le (by omega) (by omega) (by omega) (by omega)] at q5
                cases sm with
                | true => exact absurd rfl q4
                | false => exact stay (by simp; omega)
              · rw [zI_le (by omega) (by omega) (by omega) (by omega)] at q5
                cases sm with
                | true => exact absurd rfl q4
                | false => exact w101 (if_pos (by simp; omega))
              · rw [zI_le (by omega) (by omega) (by omega) (by omega)] at q5
                cases sm with
                | false => exact absurd q4 (by decide)
                | true => exact stay (by simp; omega)
              · rw [zI_le (by omega) (by omega) (by omega) (by omega)] at q5
                cases sm with
                | false => exact absurd q4 (by decide)
                | true => exact w101 (if_pos (by simp; omega))
        · rw [k1] at q2
          have q2 := bI_0.mp q2
          subst q2
          intro M3 e3
          unfold hvT at h
          simp only [hok, Bool.false_eq_true, if_true, if_false] at h
          refine h M3 (by rw [e3]; exact Fr.sI (Or.inr ⟨rfl, by omega⟩)) (fun k => by rw [e3, mI_sI_a (by decide)]) ⟨?_, fun z => (by cases z), ?_, fun z => (by cases z)⟩
          · rw [e3, mI_sI_i (by decide)]; exact k1
          · rw [e3, mI_sI_eq]
            cases st with
            | none => rfl
            | some y => rfl
      · have q := bI_0.mp q
        exact nok (by unfold okH; rw [q, Bool.and_false])
    | succ j jh =>
      intro s hs hall
      obtain ⟨p1, p2, p3⟩ := hPP s (by omega)
      have hfl := faL_le L (sOB 3 L.1 c o s)
      refine b_X11_weighHalves_2 hH.1 (by omega) ⟨fun q => ?_, fun _ => ⟨na_in (by omega) (by omega), ?_, ?_⟩⟩
      · rw [na_le (by omega) (by omega)] at q; omega
      · rw [na_ix (by omega), p1]; exact na_in (by omega) (by omega)
      · rw [na_ix (k := s) (by omega), p1, na_ix (by omega), (hH.2.2.2.2.2 _ p3 p2).1]
        refine sp_hangs hfl ⟨_, rfl, Ext.refl _, fun q => ?_, fun q => ?_⟩
        · have q := of_decide_eq_true (bI_n0.mp q)
          rw [nI_add]
          refine jh (s + 1) (by omega) (fun s' hs' => ?_)
          rcases (show s' < s ∨ s' = s by omega) with q9 | q9
          · exact hall s' q9
          · rw [q9]; exact q
        · have q := of_decide_eq_false (bI_0.mp q)
          refine nok ?_
          unfold okH
          rw [decide_eq_false (fun z => q (z s (by omega)))]; rfl
  exact e_X11_weighHalves (b_X11_weighHalves_0 hH.1 (key m 0 (by omega) (fun s' hs' => by omega)))
theorem sp_seekHalves (ho : o < 2 ^ L.1) (hm : m ≤ 8) : ∀ (r p u c d : Nat) (M : Mem) (Q : Option AV → Mem → Prop) (st : Option (Int × Nat)), p + r = L.1 → r + 10 ≤ d → rH M l L → (sk = true → mI M 75 36 = nI g ∧ g < 3) → u ≤ p → c < 8 ^ p → (∀ s, s < 8 → mI M 93 s = nI (sOB 3 p c o s)) → (∀ s, s < u → 1 ≤ sOB 3 p c o s) → skR M sk sm st →
    (∀ B : Mem, Fr hvS M B → (∀ s, s < 8 → mI B 93 s = nI (sOB 3 p c o s)) → skR B sk sm ((enB 3 L.1 o m r u c).foldl (hvT L g sm sk o m) st) → Q none B) →
    Cl X d 0 0 m_X11_seekHalves [vR 75, vI (nI p), vI (nI o), vI (nI m), vI (nI u), vI (nI c)] M Q := by
  intro r
  induction r with
  | zero =>
    intro p u c d M Q st hp hd hH hg hu hc hpt hps hk h
    obtain rfl : p = L.1 := by omega
    have hb := hH.b
    have h512 := p9 hb.2.1
    have h8 := p8 hb.2.1
    have h15 : WA X d 0 0 m_X11_seekHalves 15 [some (vR 75), some (vI (nI L.1)), some (vI (nI o)), some (vI (nI m)), some (vI (nI u)), some (vI (nI c)), none] [] M Q := by
      refine b_X11_seekHalves_15 hH.1 (by omega) ⟨hH.i, fun q => absurd (by rw [hH.n]) q, fun _ => ⟨fun q => ?_, fun q => ?_⟩⟩
      · rw [na_eq (by omega) (by omega)] at q
        simp only [enB, if_neg q, List.foldl_nil] at h
        exact h M Fr.refl hpt hk
      · rw [na_eq (by omega) (by omega)] at q
        subst q
        simp only [enB, if_true, List.foldl_cons, List.foldl_nil] at h
        exact sp_weighHalves (by omega) hH hg hm (by omega) (fun s hs => ⟨hpt s (by omega), hps s hs⟩) hk (fun B hF h78 hkB => ⟨rfl, hF.ext, h B hF (fun s hs => by rw [h78]; exact hpt s hs) hkB⟩)
    refine e_X11_seekHalves (b_X11_seekHalves_0 hH.1 ⟨fun _ => h15, fun q => ⟨fun _ => h15, fun q2 => ?_⟩⟩)
    rw [hk.1] at q
    rw [hk.2.2.1] at q2
    have q := bI_0.mp q
    have q2 := bI_n0.mp q2
    subst q
    rw [hvT_abs q2] at h
    exact h M Fr.refl hpt hk
  | succ r ih =>
    intro p u c d M Q st hp hd hH hg hu hc hpt hps hk h
    have hb := hH.b
    have h512 := p9 hb.2.1
    have h8 := p8 hb.2.1
    have hop : L.1 - (r + 1) = p := by omega
    have hc8 : 8 ^ (p + 1) ≤ 134217728 := p8 (by omega)
    rw [Nat.pow_succ] at hc8
    have h15 : WA X d 0 0 m_X11_seekHalves 15 [some (vR 75), some (vI (nI p)), some (vI (nI o)), some (vI (nI m)), some (vI (nI u)), some (vI (nI c)), none] [] M Q := by
      refine b_X11_seekHalves_15 hH.1 (by omega) ⟨hH.i, fun _ => ⟨fun hb2 => ?_, fun hb2 => ?_⟩, fun q => ?_⟩
      · rw [bit0 (by omega) (by omega)] at hb2
        have hb2 : o.testBit p = true := by simpa using hb2
        have een : enB 3 L.1 o m (r + 1) u c = flatR (fun s => enB 3 L.1 o m r (max u (s + 1)) (2 ^ 3 * c + s)) (min (u + 1) m) 0 := by
          conv => lhs; unfold enB
          rw [hop, if_pos hb2]
        rw [een] at h
        have loop : ∀ (j s : Nat) (B : Mem) (st' : Option (Int × Nat)), s + j = min (u + 1) m → Fr hvS M B → (∀ s, s < 8 → mI B 93 s = nI (sOB 3 p c o s)) → skR B sk sm st' →
            (flatR (fun s => enB 3 L.1 o m r (max u (s + 1)) (2 ^ 3 * c + s)) j s).foldl (hvT L g sm sk o m) st' = (flatR (fun s => enB 3 L.1 o m r (max u (s + 1)) (2 ^ 3 * c + s)) (min (u + 1) m) 0).foldl (hvT L g sm sk o m) st →
            WA X d 0 0 m_X11_seekHalves 70 [some (vR 75), some (vI (nI p)), some (vI (nI o)), some (vI (nI m)), some (vI (nI u)), some (vI (nI c)), some (vI (nI s))] [] B Q := by
          intro j
          induction j with
          | zero =>
            intro s B st' hs hF hptB hkB he
            simp only [flatR, List.foldl_nil] at he
            rw [← he] at h
            have hHB := hH.hv hF
            have hdone := h B hF hptB hkB
            refine b_X11_seekHalves_70 hHB.1 (by omega) ⟨fun _ => hdone, fun q => ⟨fun _ => hdone, fun q2 => ?_⟩⟩
            rw [na_lt (by omega) (by omega)] at q
            rw [na_le (by omega) (by omega)] at q2
            omega
          | succ j jh =>
            intro s B st' hs hF hptB hkB he
            have hHB := hH.hv hF
            have hin : vp_in (nI s) 8 := na_in (by omega) (by omega)
            have hx : ix (nI s) = s := na_ix (by omega)
            have hsl := sOB_lt 3 p c o s
            refine b_X11_seekHalves_70 hHB.1 (by omega) ⟨fun q => ?_, fun _ => ⟨fun q => ?_, fun _ => ?_⟩⟩
            · rw [na_lt (by omega) (by omega)] at q; omega
            · rw [na_le (by omega) (by omega)] at q; omega
            rw [hx]
            refine ⟨hin, hin, fun M1 e1 => ?_⟩
            rw [hptB s (by omega), na_1shl (by omega), na_or] at e1
            have hF1 : Fr hvS M M1 := by rw [e1]; exact hF.trans (Fr.sI (Or.inl rfl))
            have emax : maxI (nI u) (nI s + nI 1) = nI (max u (s + 1)) := by
              rw [nI_add]
              unfold maxI
              by_cases q : u < s + 1
              · rw [if_pos ((na_lt (by omega) (by omega)).mpr q), Nat.max_eq_right (by omega)]
              · rw [if_neg (fun z => q ((na_lt (by omega) (by omega)).mp z)), Nat.max_eq_left (by omega)]
            have enum : nI 8 * nI c + nI s = nI (2 ^ 3 * c + s) := by rw [pk_mul, nI_add]
            rw [emax, enum, nI_add]
            have hs3 : s < 2 ^ 3 := by omega
            have hpt1 : ∀ k, k < 8 → mI M1 93 k = nI (sOB 3 (p + 1) (2 ^ 3 * c + s) o k) := by
              intro k hk
              rw [sOB_succ hs3, e1, mI_sI]
              by_cases hks : k = s
              · subst hks; simp [hb2]
              · rw [if_neg (by omega), hptB k hk, if_neg (by simp [show ¬ s = k by omega])]
            simp only [flatR, List.foldl_append] at he
            refine ih (p + 1) (max u (s + 1)) (2 ^ 3 * c + s) (d - 1) M1 _ st' (by omega) (by omega) (hH.hv hF1) (fun z => ?_) (by omega) ?_ hpt1 ?_ ?_ (fun M2 hF2 hpt2 hk2 => ⟨rfl, hF2.ext, hin, hin, fun M3 e3 => ?_⟩)
            · refine ⟨?_, (hg z).2⟩
              rw [hF1.at (by unfold hvS; omega)]; exact (hg z).1
            · rw [Nat.pow_succ]; omega
            · intro k hk
              rw [sOB_succ hs3]
              by_cases hks : s = k
              · subst hks
                simp only [hb2, decide_true, Bool.and_self, if_true]
                exact Nat.le_trans (Nat.one_le_two_pow) Nat.right_le_or
              · rw [if_neg (by simp [hks])]
                exact hps k (by omega)
            · exact hkB.fr (fun k => by rw [e1, mI_sI_a (by decide)])
            · rw [hpt2 s (by omega), sOB_succ hs3, na_1shl (by omega), na_dif] at e3
              simp only [hb2, decide_true, Bool.and_self, if_true] at e3
              rw [dif_or hsl] at e3
              have hF3 : Fr hvS M M3 := by rw [e3]; exact (hF1.trans hF2).trans (Fr.sI (Or.inl rfl))
              rw [nI_add]
              refine jh (s + 1) M3 _ (by omega) hF3 (fun k hk => ?_) (hk2.fr (fun k => by rw [e3, mI_sI_a (by decide)])) he
              rw [e3, mI_sI]
              by_cases hks : k = s
              · subst hks; simp
              · rw [if_neg (by omega), hpt2 k hk, sOB_succ hs3, if_neg (by simp [show ¬ s = k by omega])]
        exact loop (min (u + 1) m) 0 M st (by omega) Fr.refl hpt hk rfl
      · rw [bit0 (by omega) (by omega)] at hb2
        have een : enB 3 L.1 o m (r + 1) u c = enB 3 L.1 o m r u (2 ^ 3 * c) := by
          conv => lhs; unfold enB
          rw [hop, hb2]; rfl
        rw [een] at h
        have es : ∀ s, sOB 3 (p + 1) (2 ^ 3 * c) o s = sOB 3 p c o s := fun s => by
          have := sOB_succ (b := 3) (p := p) (c := c) (e := 0) (o := o) (s := s) (by decide)
          rw [Nat.add_zero, hb2] at this
          simpa using this
        rw [nI_add, show nI 8 * nI c = nI (2 ^ 3 * c) by rw [pk_mul]]
        refine ih (p + 1) u (2 ^ 3 * c) (d - 1) M _ st (by omega) (by omega) hH hg (by omega) ?_ (fun s hs => ?_) (fun s hs => ?_) hk (fun B hF hptB hkB => ⟨rfl, hF.ext, h B hF (fun s hs => ?_) hkB⟩)
        · rw [Nat.pow_succ]; omega
        · rw [es]; exact hpt s hs
        · rw [es]; exact hps s hs
        · rw [← es]; exact hptB s hs
      · rw [hH.n, na_eq (by omega) (by omega)] at q; omega
    refine e_X11_seekHalves (b_X11_seekHalves_0 hH.1 ⟨fun _ => h15, fun q => ⟨fun _ => h15, fun q2 => ?_⟩⟩)
    rw [hk.1] at q
    rw [hk.2.2.1] at q2
    have q := bI_0.mp q
    have q2 := bI_n0.mp q2
    subst q
    rw [hvT_abs q2] at h
    exact h M Fr.refl hpt hk
theorem zero_loop {M : Mem} : ∀ s, (∀ k, k < s → mI M 93 k = nI 0) → ∀ k, k < s → mI M 93 k = nI 0 := fun _ h => h
theorem sp_hasHalves {d m2 : Nat} {M : Mem} {Q : Option AV → Mem → Prop} (hd : 20 ≤ d) (ho : o < 2 ^ L.1) (hm : m2 ≤ 4) (hH : rH M l L) (h : ∀ B : Mem, Fr hvS M B → Q (some (vI (bI (hvF L 0 false false o m2).isSome))) B) : Cl X d 0 0 m_X11_hasHalves [vR 75, vI (nI o), vI (nI m2)] M Q := by
  have hb := hH.b
  have key : ∀ r s (B : Mem), s + r = 8 → Fr hvS M B → (∀ k, k < s → mI B 93 k = nI 0) → WA X d 0 0 m_X11_hasHalves 2 [some (vR 75), some (vI (nI o)), some (vI (nI m2)), some (vI (nI s))] [] B Q := by
    intro r
    induction r with
    | zero =>
      intro s B hs hF hz
      obtain rfl : s = 8 := by omega
      refine b_X11_hasHalves_2 (hH.hv hF).1 (by omega) ⟨fun _ M1 e1 M2 e2 => ?_, fun q => absurd (by decide) q⟩
      have hF2 : Fr hvS M M2 := by rw [e2, e1]; exact (hF.trans (Fr.sI (Or.inr ⟨rfl, by omega⟩))).trans (Fr.sI (Or.inr ⟨rfl, by omega⟩))
      rw [pk_mul]
      refine sp_seekHalves (g := 0) (sk := false) (sm := false) ho (show 2 * m2 ≤ 8 by omega) L.1 0 0 0 (d - 1) M2 _ none (by omega) (by omega) (hH.hv hF2) (fun z => (by cases z)) (by omega) (by decide) (fun s hs => ?_) (fun s hs => by omega) ⟨?_, fun z => (by cases z), ?_, fun z => (by cases z)⟩ (fun B2 hFB _ hk => ⟨rfl, hFB.ext, ?_⟩)
      · rw [e2, mI_sI_a (by decide), e1, mI_sI_a (by decide)]; exact hz s hs
      · rw [e2, mI_sI_i (by decide), e1, mI_sI_eq]; rfl
      · rw [e2, mI_sI_eq]; rfl
      · rw [hk.2.2.1]
        exact ⟨bI_B _, h B2 (hF2.trans hFB)⟩
    | succ r ih =>
      intro s B hs hF hz
      refine b_X11_hasHalves_2 (hH.hv hF).1 (by omega) ⟨fun q => ?_, fun _ => ⟨na_in (by omega) (by omega), fun M4 e4 => ?_⟩⟩
      · rw [na_le (by omega) (by omega)] at q; omega
      · rw [na_ix (by omega)] at e4
        rw [nI_add]
        refine ih (s + 1) M4 (by omega) (by rw [e4]; exact hF.trans (Fr.sI (Or.inl rfl))) (fun k hk => ?_)
        rw [e4, mI_sI]
        by_cases hks : k = s
        · subst hks; simp
        · rw [if_neg (by omega)]; exact hz k (by omega)
  exact e_X11_hasHalves (b_X11_hasHalves_0 hH.1 (key 8 0 M (by omega) Fr.refl (fun k hk => by omega)))
/-- halvesValue leaves what it found -/
theorem sp_halvesValue {d m2 : Nat} {M : Mem} {Q : Option AV → Mem → Prop} {q0 : Bool} (hd : 20 ≤ d) (ho : o < 2 ^ L.1) (hm : m2 ≤ 4) (hg : mI M 75 36 = nI g) (hg3 : g < 3) (hH : rH M l L)
    (h : ∀ B : Mem, Fr hvS M B → skR B true q0 (hvF L g q0 true o m2) → Q (some (vI (match hvF L g q0 true o m2 with | none => nI 0 | some v => zI v.1))) B) : Cl X d 0 0 m_X11_halvesValue [vR 75, vI (nI o), vI (nI m2), vI (bI q0)] M Q := by
  have hb := hH.b
  have key : ∀ r s (B : Mem), s + r = 8 → Fr hvS M B → (∀ k, k < s → mI B 93 k = nI 0) → WA X d 0 0 m_X11_halvesValue 3 [some (vR 75), some (vI (nI o)), some (vI (nI m2)), some (vI (bI q0)), some (vI (nI s))] [] B Q := by
    intro r
    induction r with
    | zero =>
      intro s B hs hF hz
      obtain rfl : s = 8 := by omega
      refine b_X11_halvesValue_3 (hH.hv hF).1 (by omega) ⟨fun _ M1 e1 M2 e2 M3 e3 => ?_, fun q => absurd (by decide) q⟩
      have hF2 : Fr hvS M M3 := by rw [e3, e2, e1]; exact ((hF.trans (Fr.sI (Or.inr ⟨rfl, by omega⟩))).trans (Fr.sI (Or.inr ⟨rfl, by omega⟩))).trans (Fr.sI (Or.inr ⟨rfl, by omega⟩))
      rw [pk_mul]
      refine sp_seekHalves (g := g) (sk := true) (sm := q0) ho (show 2 * m2 ≤ 8 by omega) L.1 0 0 0 (d - 1) M3 _ none (by omega) (by omega) (hH.hv hF2) (fun _ => ⟨?_, hg3⟩) (by omega) (by decide) (fun s hs => ?_) (fun s hs => by omega) ⟨?_, fun _ => ?_, ?_, fun _ q hq => (by cases hq)⟩ (fun B2 hFB _ hk => ⟨rfl, hFB.ext, ?_⟩)
      · rw [hF2.at (by unfold hvS; omega)]; exact hg
      · rw [e3, mI_sI_a (by decide), e2, mI_sI_a (by decide), e1, mI_sI_a (by decide)]; exact hz s hs
      · rw [e3, mI_sI_i (by decide), e2, mI_sI_i (by decide), e1, mI_sI_eq]; rfl
      · rw [e3, mI_sI_i (by decide), e2, mI_sI_eq]
      · rw [e3, mI_sI_eq]; rfl
      · have h9 := h B2 (hF2.trans hFB) hk
        have hk' : skR B2 true q0 (hvF L g q0 true o m2) := hk
        obtain ⟨k1, k2, k3, k4⟩ := hk'
        rw [k3]
        revert h9 k4
        cases hvF L g q0 true o m2 with
        | none => exact fun h9 k4 => ⟨fun _ => h9, fun q => absurd rfl q⟩
        | some v =>
          intro h9 k4
          obtain ⟨y1, -⟩ := k4 rfl v rfl
          refine ⟨fun q => absurd q (show ¬ bI true = nI 0 by decide), fun _ => ?_⟩
          rw [y1]; exact h9
    | succ r ih =>
      intro s B hs hF hz
      refine b_X11_halvesValue_3 (hH.hv hF).1 (by omega) ⟨fun q => ?_, fun _ => ⟨na_in (by omega) (by omega), fun M4 e4 => ?_⟩⟩
      · rw [na_le (by omega) (by omega)] at q; omega
      · rw [na_ix (by omega)] at e4
        rw [nI_add]
        refine ih (s + 1) M4 (by omega) (by rw [e4]; exact hF.trans (Fr.sI (Or.inl rfl))) (fun k hk => ?_)
        rw [e4, mI_sI]
        by_cases hks : k = s
        · subst hks; simp
        · rw [if_neg (by omega)]; exact hz k (by omega)
  exact e_X11_halvesValue (b_X11_halvesValue_0 hH.1 (key 8 0 M (by omega) Fr.refl (fun k hk => by omega)))
/-- isHalves -/
theorem sp_isHalves {d m2 : Nat} {x : Int32} {M : Mem} {Q : Option AV → Mem → Prop} (hd : 8 ≤ d) (ho : o < 2 ^ L.1) (hm : m2 ≤ 4) (hH : rH M l L) (h : ∀ B : Mem, Fr hvS M B → Q (some (vI (bI (ihB L x o m2)))) B) : Cl X d 0 0 m_X11_isHalves [vR 75, vI x, vI (nI o), vI (nI m2)] M Q := by
  have hb := hH.b
  have h512 := p9 hb.2.1
  have h8 := p8 hb.2.1
  have s3 : ∀ k : Nat, k < 2 ^ 31 → (shr (nI k) (nI 3 * nI L.1) = nI 0 ↔ k < 8 ^ L.1) := fun k hk => by
    rw [pk_mul, na_shr hk (by omega), na_eq (by have := Nat.shiftRight_le k (3 * L.1); omega) (by omega), Nat.shiftRight_eq_div_pow, Nat.pow_mul]
    exact Nat.div_eq_zero_iff_lt (Nat.pow_pos (by decide))
  refine e_X11_isHalves (b_X11_isHalves_0 hH.1 ⟨fun q => ?_, fun q => ⟨hH.i, fun q2 => ?_, fun q2 => ?_⟩⟩)
  · unfold ihB at h; rw [inN_neg q] at h; exact h M Fr.refl
  · obtain ⟨c, rfl, hc⟩ := nat_of q
    rw [hH.n, s3 c hc] at q2
    unfold ihB at h; rw [inN_nI (by omega) q2] at h
    dsimp only at h
    -- the halves
    have k131 : nuF 3 L.1 c o L.1 = some (2 * m2) → ∀ j s (B : Mem), s + j = 2 * m2 → Fr hvS M B → (∀ s', s' < s → mI B 93 s' = nI (sOB 3 L.1 c o s') ∧ faL L (sOB 3 L.1 c o s') ≠ 2) → WA X d 0 0 m_X11_isHalves 131 [some (vR 75), some (vI (nI c)), some (vI (nI o)), some (vI (nI m2)), none, some (vI (nI s)), none, none] [] B Q := by
      intro hnu j
      rw [hnu, decide_eq_true rfl, Bool.true_and] at h
      induction j with
      | zero =>
        intro s B hs hF hall
        obtain rfl : s = 2 * m2 := by omega
        have hHB := hH.hv hF
        refine b_X11_isHalves_131 hHB.1 (by omega) ⟨fun _ => ?_, fun q => absurd (by rw [pk_mul, na_le (by omega) (by omega)]; omega) q⟩
        rw [pk_mul]
        refine sp_canPair hHB (P := sOB 3 L.1 c o) (by omega) (fun h hh => ⟨(hall h hh).1, sOB_lt _ _ _ _ _, nuF_pos hnu hh⟩) 5 0 _ _ (by omega) (by decide) (by decide) ⟨_, rfl, Ext.refl _, bI_B _, ?_⟩
        have h9 := h B hF
        unfold okH at h9
        rw [decide_eq_true (fun s' hs' => (hall s' hs').2), Bool.true_and] at h9
        exact h9
      | succ j jh =>
        intro s B hs hF hall
        have hHB := hH.hv hF
        have hl := sOB_lt 3 L.1 c o s
        have hp := nuF_pos hnu (show s < 2 * m2 by omega)
        have hfl := faL_le L (sOB 3 L.1 c o s)
        refine b_X11_isHalves_131 hHB.1 (by omega) ⟨fun q => ?_, fun _ => sp_halfOf (by omega) hHB hc (by omega) (by omega) ⟨_, rfl, Ext.refl _, na_in (by omega) (by omega), fun M3 e3 => ⟨na_in (by omega) (by omega), ?_, ?_⟩⟩⟩
        · rw [pk_mul, na_le (by omega) (by omega)] at q; omega
        · rw [na_ix (k := s) (by omega)] at e3 ⊢
          rw [e3, mI_sI_eq]; exact na_in (by omega) (by omega)
        · rw [na_ix (k := s) (by omega)] at e3 ⊢
          have hF3 : Fr hvS M M3 := by rw [e3]; exact hF.trans (Fr.sI (Or.inl rfl))
          have hH3 := hH.hv hF3
          have e78 : mI M3 93 s = nI (sOB 3 L.1 c o s) := by rw [e3, mI_sI_eq]
          rw [e78, na_ix (by omega), (hH3.2.2.2.2.2 _ hp hl).1]
          refine sp_hangs hfl ⟨_, rfl, Ext.refl _, fun q => ?_, fun q => ?_⟩
          · have q := of_decide_eq_true (bI_n0.mp q)
            rw [nI_add]
            refine jh (s + 1) M3 (by omega) hF3 (fun s' hs' => ?_)
            rcases (show s' < s ∨ s' = s by omega) with q9 | q9
            · refine ⟨?_, (hall s' q9).2⟩
              rw [e3, mI_sI_i (by omega)]; exact (hall s' q9).1
            · rw [q9]; exact ⟨e78, q⟩
          · have q := of_decide_eq_false (bI_0.mp q)
            have h9 := h M3 hF3
            unfold okH at h9
            rw [decide_eq_false (fun z => q (z s (by omega)))] at h9
            exact h9
    have key : ∀ r p x, p + r = L.1 → nuF 3 L.1 c o p = some x → WA X d 0 0 m_X11_isHalves 28 [some (vR 75), some (vI (nI c)), some (vI (nI o)), some (vI (nI m2)), some (vI (nI x)), some (vI (nI p)), none, none] [] M Q := by
      intro r
      induction r with
      | zero =>
        intro p x hp hx
        obtain rfl : p = L.1 := by omega
        have hxl := nuF_le hx
        refine b_X11_isHalves_28 hH.1 (by omega) ⟨hH.i, fun _ => ⟨fun q => ?_, fun q => ?_⟩, fun q => absurd (by rw [hH.n, na_le (by omega) (by omega)]; omega) q⟩
        · rw [pk_mul, na_eq (by omega) (by omega)] at q
          exact k131 (by rw [hx, q]) (2 * m2) 0 M (by omega) Fr.refl (fun s' hs' => by omega)
        · rw [pk_mul, na_eq (by omega) (by omega)] at q
          rw [hx, decide_eq_false (fun e => q (by cases e; rfl)), Bool.false_and] at h
          exact h M Fr.refl
      | succ r ih =>
        intro p x hp hx
        have hxl := nuF_le hx
        have hdl := dgB_lt 3 L.1 c p
        have bad : nuF 3 L.1 c o (p + 1) = none → Q (some (vI (nI 0))) M := fun hn => by
          rw [nuF_none_le hn (by omega), decide_eq_false (fun e => by cases e), Bool.false_and] at h; exact h M Fr.refl
        have k108 : nuF 3 L.1 c o (p + 1) = some x → WA X d 0 0 m_X11_isHalves 108 [some (vR 75), some (vI (nI c)), some (vI (nI o)), some (vI (nI m2)), none, some (vI (nI p)), none, none] [vI (nI x)] M Q := fun hn =>
          b_X11_isHalves_108 hH.1 (fun x1 e1 => by rw [e1, add0, nI_add]; exact ih (p + 1) x (by omega) hn)
        refine b_X11_isHalves_28 hH.1 (by omega) ⟨hH.i, fun q => ?_, fun _ => sp_half hH hc (by omega) ⟨_, rfl, Ext.refl _, fun hb2 => ?_, fun hb2 => ?_⟩⟩
        · rw [hH.n, na_le (by omega) (by omega)] at q; omega
        · rw [bit1 (by omega) (by omega)] at hb2
          have hb2 : o.testBit p = false := by simpa using hb2
          refine b_X11_isHalves_66 hH.1 ⟨fun _ => ⟨fun q => ?_, fun q => ?_⟩, fun q => absurd rfl q⟩
          · rw [na_eq (by omega) (by omega)] at q
            refine b_X11_isHalves_90 hH.1 ⟨fun _ => k108 ?_, fun q9 => absurd rfl q9⟩
            simp only [nuF, hx, hb2, if_pos q, Bool.false_eq_true, if_false]
          · rw [na_eq (by omega) (by omega)] at q
            refine bad ?_
            simp only [nuF, hx, hb2, if_neg q, Bool.false_eq_true, if_false]
        · rw [bit1 (by omega) (by omega)] at hb2
          refine b_X11_isHalves_66 hH.1 ⟨fun q => absurd q (by decide), fun _ => ⟨fun q => ?_, fun q => ?_⟩⟩
          · rw [na_le (by omega) (by omega)] at q
            refine b_X11_isHalves_90 hH.1 ⟨fun q9 => absurd q9 (by decide), fun _ => ⟨fun q2 => k108 ?_, fun q2 x1 e1 => ?_⟩⟩
            · rw [na_eq (by omega) (by omega)] at q2
              simp only [nuF, hx, if_pos hb2, if_neg (show ¬ x < dgB 3 L.1 c p by omega), if_neg q2]
            · rw [na_eq (by omega) (by omega)] at q2
              rw [e1, nI_add, nI_add]
              refine ih (p + 1) (x + 1) (by omega) ?_
              simp only [nuF, hx, if_pos hb2, if_neg (show ¬ x < dgB 3 L.1 c p by omega), if_pos q2]
          · rw [na_le (by omega) (by omega)] at q
            refine bad ?_
            simp only [nuF, hx, if_pos hb2, if_pos (show x < dgB 3 L.1 c p by omega)]
    exact key L.1 0 0 (by omega) rfl
  · obtain ⟨c, rfl, hc⟩ := nat_of q
    rw [hH.n, s3 c hc] at q2
    unfold ihB at h; rw [inN_nI_none hc (by omega)] at h; exact h M Fr.refl
end SEEK
