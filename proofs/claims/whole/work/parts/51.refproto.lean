/-! A PROTOCOL's text -/
def upP (f : Nat → Nat) (k v : Nat) : Nat → Nat := fun x => if x = k then v else f x
def dnP (c : Nat) : Nat := if c = 62 then 0 else if c = 43 then 1 else 2
def rdT (z : Nat) (t : Nat → Nat) (R : ProT) (i : Nat) : Option Nat × Nat × ProT :=
  if (chr z t i ≠ 97 ∧ chr z t i ≠ 98) ∨ R.1 = 6 then (some (skp z t i), skp z t i, R)
  else if chr z t (skp z t i + 1) ≠ 62 ∧ chr z t (skp z t i + 1) ≠ 43 ∧ chr z t (skp z t i + 1) ≠ 47 then (none, skp z t (skp z t i + 1), (R.1 + 1, upP R.2.1 R.1 (chr z t i - 97), upP R.2.2 R.1 3))
  else (if (chr z t (skp z t (skp z t i + 1) + 1) ≠ 97 ∧ chr z t (skp z t (skp z t i + 1) + 1) ≠ 98) ∨ chr z t (skp z t (skp z t i + 1) + 1) = chr z t i then some (skp z t (skp z t (skp z t i + 1) + 1)) else none, skp z t (skp z t (skp z t i + 1) + 1) + 1, (R.1 + 1, upP R.2.1 R.1 (chr z t i - 97), upP R.2.2 R.1 (dnP (chr z t (skp z t i + 1)))))
def rdsT (z : Nat) (t : Nat → Nat) : Nat → Option Nat → Nat → ProT → Option Nat × ProT
  | 0, w, _, R => (w, R)
  | _ + 1, some e, _, R => (some e, R)
  | f + 1, none, i, R => if chr z t i = 44 then rdsT z t f (rdT z t R (skp z t i + 1)).1 (rdT z t R (skp z t i + 1)).2.1 (rdT z t R (skp z t i + 1)).2.2 else if skp z t i < z then (some (skp z t i), R) else (none, R)
def R0 : ProT := (0, fun _ => 0, fun _ => 3)
def protT (z : Nat) (t : Nat → Nat) : Option Nat × ProT := rdsT z t 301 (rdT z t R0 0).1 (rdT z t R0 0).2.1 (rdT z t R0 0).2.2
def RnOK (R : ProT) : Prop := R.1 ≤ 6 ∧ ∀ r, R.2.1 r ≤ 1 ∧ R.2.2 r ≤ 3
theorem chr_pos {z : Nat} {t : Nat → Nat} {i c : Nat} (h : chr z t i = c) (hc : c ≠ 0) : skp z t i < z := by
  unfold chr at h
  split at h
  · assumption
  · exact absurd h.symm hc
theorem upP_le {f : Nat → Nat} {k v b : Nat} (hf : ∀ x, f x ≤ b) (hv : v ≤ b) (x : Nat) : upP f k v x ≤ b := by
  unfold upP; split
  · exact hv
  · exact hf x
theorem dnP_le (c : Nat) : dnP c ≤ 3 := by unfold dnP; split <;> (try split) <;> omega
theorem rdT_ok {z : Nat} {t : Nat → Nat} {R : ProT} {i : Nat} (hR : RnOK R) : RnOK (rdT z t R i).2.2 := by
  obtain ⟨h1, h2⟩ := hR
  unfold rdT
  split
  · exact ⟨h1, h2⟩
  · rename_i hc
    have hcl : chr z t i - 97 ≤ 1 := by omega
    split
    · exact ⟨by dsimp only; omega, fun r => ⟨upP_le (fun x => (h2 x).1) hcl r, upP_le (fun x => (h2 x).2) (by omega) r⟩⟩
    · exact ⟨by dsimp only; omega, fun r => ⟨upP_le (fun x => (h2 x).1) hcl r, upP_le (fun x => (h2 x).2) (dnP_le _) r⟩⟩
theorem rdT_go {z : Nat} {t : Nat → Nat} {R : ProT} {i : Nat} (h : (rdT z t R i).1 = none) : i < (rdT z t R i).2.1 ∧ (rdT z t R i).2.1 ≤ z ∧ (rdT z t R i).2.2.1 = R.1 + 1 := by
  have s1 := skp_ge z t i
  have s2 := skp_ge z t (skp z t i + 1)
  have s3 := skp_le z t (skp z t i + 1)
  have s4 := skp_ge z t (skp z t (skp z t i + 1) + 1)
  unfold rdT at h ⊢
  split at h
  · cases h
  · rename_i hc
    rw [if_neg hc]
    have p1 : skp z t i < z := by
      rcases (show chr z t i = 97 ∨ chr z t i = 98 by omega) with q | q
      · exact chr_pos q (by decide)
      · exact chr_pos q (by decide)
    split at h
    · rename_i hs
      rw [if_pos hs]
      exact ⟨by dsimp only; omega, by dsimp only; omega, rfl⟩
    · rename_i hs
      rw [if_neg hs]
      dsimp only at h ⊢
      split at h
      · cases h
      · rename_i hd
        have p3 : skp z t (skp z t (skp z t i + 1) + 1) < z := by
          rcases (show chr z t (skp z t (skp z t i + 1) + 1) = 97 ∨ chr z t (skp z t (skp z t i + 1) + 1) = 98 by omega) with q | q
          · exact chr_pos q (by decide)
          · exact chr_pos q (by decide)
        exact ⟨by omega, by omega, rfl⟩
theorem rdT_w {z : Nat} {t : Nat → Nat} {R : ProT} {i : Nat} (hz : z ≤ 300) (hi : i < 2 ^ 17) : wOk (rdT z t R i).1 := by
  have b1 := skp_le z t i
  have b2 := skp_le z t (skp z t i + 1)
  have b3 := skp_le z t (skp z t (skp z t i + 1) + 1)
  unfold rdT
  split
  · intro f hf; cases hf; omega
  · split
    · intro f hf; cases hf
    · dsimp only
      split
      · intro f hf; cases hf; omega
      · intro f hf; cases hf
theorem rdT_i {z : Nat} {t : Nat → Nat} {R : ProT} {i : Nat} (hz : z ≤ 300) (hi : i < 2 ^ 17) : (rdT z t R i).2.1 < 2 ^ 19 := by
  have b1 := skp_le z t i
  have b2 := skp_le z t (skp z t i + 1)
  have b3 := skp_le z t (skp z t (skp z t i + 1) + 1)
  unfold rdT
  split
  · dsimp only; omega
  · split
    · dsimp only; omega
    · dsimp only; omega
def roS (p a k : Nat) : Prop := (a = 84 ∧ k = p) ∨ ((a = 85 ∨ a = 86) ∧ 6 * p ≤ k ∧ k < 6 * p + 6)
theorem roS_T {p : Nat} : ¬ roS p 75 2 ∧ ∀ i, ¬ roS p 76 i := by unfold roS; constructor <;> intros <;> omega
section PROTO
variable {X : Cx} {z p : Nat} {t : Nat → Nat}
theorem lk_chr {M : Mem} {i : Nat} (hT : rT M z t) (h : chr z t i ≠ 0) : lkV z t (skp z t i) = nI (chr z t i) := by
  unfold lkV chr at *
  split
  · rfl
  · rename_i q; rw [if_neg q] at h; exact absurd rfl h
theorem sp_round {d i : Nat} {R : ProT} {M : Mem} {Q : Option AV → Mem → Prop} (hd : 3 ≤ d) (hS : RfS M) (hT : rT M z t) (hi : i < 2 ^ 17) (hp : p < 9) (hR : RnOK R) (hP : rPro M p R)
    (h : ∀ B : Mem, Fr (roS p) M B → ((rdT z t R i).1 = none → rPro B p (rdT z t R i).2.2) → Q none (pst B (rdT z t R i).1 (rdT z t R i).2.1)) :
    Cl X d 0 0 m_X11_round [vR 75, vI (nI p)] (pst M none i) Q := by
  have hz := hT.2.1
  have b0 := skp_le z t i
  have b1 := skp_le z t (skp z t i + 1)
  have b2 := skp_le z t (skp z t (skp z t i + 1) + 1)
  have wn : wOk none := fun _ q => by cases q
  have hR1 := hR.1
  have h28 : ((chr z t i ≠ 97 ∧ chr z t i ≠ 98) ∨ R.1 = 6) → WA X d 0 0 m_X11_round 28 [some (vR 75), none, none, none, none, none] [] (pst M none (skp z t i)) Q := fun hc => by
    refine b_X11_round_28 (M := pst M none (skp z t i)) hS (by omega) ?_
    rw [pst_3]
    refine sp_badP hS wn ⟨rfl, ExtP, ?_⟩
    unfold rdT at h
    rw [if_pos hc] at h
    exact h M Fr.refl (fun q => by cases q)
  have h17 : (chr z t i = 97 ∨ chr z t i = 98) → WA X d 0 0 m_X11_round 17 [some (vR 75), some (vI (nI p)), some (vI (nI (chr z t i))), none, none, none] [] (pst M none (skp z t i)) Q := fun hc => by
    have e69 : mI (pst M none (skp z t i)) 84 (ix (nI p)) = nI R.1 := by rw [pst_o (by omega), na_ix (by omega)]; exact hP.1
    refine b_X11_round_17 (M := pst M none (skp z t i)) hS (by omega) ⟨na_in hp (by omega), fun q => ⟨na_in hp (by omega), fun x1 e1 => ⟨na_in hp (by omega), na_in hp (by omega), fun M1 eM1 => ?_⟩⟩, fun q => ?_⟩
    · rw [e69, na_eq (by omega) (by omega)] at q
      have e1 : x1 = nI (6 * p + R.1) := by rw [e1, e69, pk_mul, nI_add]
      subst e1
      have hx : ix (nI (6 * p + R.1)) = 6 * p + R.1 := na_ix (by omega)
      have hin : vp_in (nI (6 * p + R.1)) 54 := na_in (by omega) (by omega)
      rw [e69, na_ix (k := p) (by omega), nI_add, pst_sI (by decide)] at eM1
      subst eM1
      refine ⟨hin, fun M2 e2 => ⟨hin, fun M3 e3 M4 e4 => ?_⟩⟩
      rw [hx, na_sub (by omega), pst_sI (by decide)] at e2
      subst e2
      rw [hx, pst_sI (by decide)] at e3
      subst e3
      rw [pst_3, nI_add, pst_sI3] at e4
      subst e4
      -- the memory with the round, whatever is done in it
      have hF : ∀ v : Nat, Fr (roS p) M (sI (sI (sI M 84 p (nI (R.1 + 1))) 85 (6 * p + R.1) (nI (chr z t i - 97))) 86 (6 * p + R.1) (nI v)) := fun v =>
        ((Fr.sI (Or.inl ⟨rfl, rfl⟩)).trans (Fr.sI (Or.inr ⟨Or.inl rfl, by omega, by omega⟩))).trans (Fr.sI (Or.inr ⟨Or.inr rfl, by omega, by omega⟩))
      have hB : ∀ v : Nat, rPro (sI (sI (sI M 84 p (nI (R.1 + 1))) 85 (6 * p + R.1) (nI (chr z t i - 97))) 86 (6 * p + R.1) (nI v)) p (R.1 + 1, upP R.2.1 R.1 (chr z t i - 97), upP R.2.2 R.1 v) := fun v => by
        refine ⟨?_, fun r hr => ⟨?_, ?_⟩⟩
        · rw [mI_sI_a (by decide), mI_sI_a (by decide), mI_sI_eq]
        · rw [mI_sI_a (by decide), mI_sI]
          show _ = nI (upP R.2.1 R.1 (chr z t i - 97) r)
          unfold upP
          by_cases hq : r = R.1
          · subst hq; simp
          · rw [if_neg (by omega), mI_sI_a (by decide), if_neg hq]
            exact (hP.2 r (by dsimp only at hr; omega)).1
        · rw [mI_sI]
          show _ = nI (upP R.2.2 R.1 v r)
          unfold upP
          by_cases hq : r = R.1
          · subst hq; simp
          · rw [if_neg (by omega), mI_sI_a (by decide), mI_sI_a (by decide), if_neg hq]
            exact (hP.2 r (by dsimp only at hr; omega)).2
      have hT3 : ∀ v : Nat, rT (sI (sI (sI M 84 p (nI (R.1 + 1))) 85 (6 * p + R.1) (nI (chr z t i - 97))) 86 (6 * p + R.1) (nI v)) z t := fun v => hT.fr (hF v) roS_T.1 roS_T.2
      have hnb : ¬ ((chr z t i ≠ 97 ∧ chr z t i ≠ 98) ∨ R.1 = 6) := by omega
      unfold rdT at h
      rw [if_neg hnb] at h
      -- the other player
      have h114 : ∀ c : Nat, chr z t (skp z t i + 1) = c → (c = 62 ∨ c = 43 ∨ c = 47) → WA X d 0 0 m_X11_round 114 [some (vR 75), none, some (vI (nI (chr z t i))), some (vI (nI (6 * p + R.1))), some (vI (nI c)), none] [] (pst (sI (sI (sI M 84 p (nI (R.1 + 1))) 85 (6 * p + R.1) (nI (chr z t i - 97))) 86 (6 * p + R.1) (nI 3)) none (skp z t (skp z t i + 1))) Q := by
        intro c hcc hc3
        have h142 : ∀ v : Nat, v = dnP c → WA X d 0 0 m_X11_round 142 [some (vR 75), none, some (vI (nI (chr z t i))), none, none, none] [vI (nI v), vI (nI (6 * p + R.1)), vR 86] (pst (sI (sI (sI M 84 p (nI (R.1 + 1))) 85 (6 * p + R.1) (nI (chr z t i - 97))) 86 (6 * p + R.1) (nI 3)) none (skp z t (skp z t i + 1))) Q := by
          intro v hv
          refine b_X11_round_142 (M := pst (sI (sI (sI M 84 p (nI (R.1 + 1))) 85 (6 * p + R.1) (nI (chr z t i - 97))) 86 (6 * p + R.1) (nI 3)) none (skp z t (skp z t i + 1))) hS (by omega) ⟨54, RfS.k15 hS, hin, fun M1 e1 M2 e2 => ?_⟩
          rw [hx, pst_sI (by decide), sI_sI] at e1
          subst e1
          rw [pst_3, nI_add, pst_sI3] at e2
          subst e2
          rw [hcc, if_neg (by omega), ← hv] at h
          have fin : ∀ w, w = (if (chr z t (skp z t (skp z t i + 1) + 1) ≠ 97 ∧ chr z t (skp z t (skp z t i + 1) + 1) ≠ 98) ∨ chr z t (skp z t (skp z t i + 1) + 1) = chr z t i then some (skp z t (skp z t (skp z t i + 1) + 1)) else none) → WA X d 0 0 m_X11_round 187 [some (vR 75), none, none, none, none, none] [] (pst (sI (sI (sI M 84 p (nI (R.1 + 1))) 85 (6 * p + R.1) (nI (chr z t i - 97))) 86 (6 * p + R.1) (nI v)) w (skp z t (skp z t (skp z t i + 1) + 1))) Q := fun w hw => by
            refine b_X11_round_187 (M := pst (sI (sI (sI M 84 p (nI (R.1 + 1))) 85 (6 * p + R.1) (nI (chr z t i - 97))) 86 (6 * p + R.1) (nI v)) w (skp z t (skp z t (skp z t i + 1) + 1))) hS (fun M1 e1 => ?_)
            rw [pst_3, nI_add, pst_sI3] at e1
            subst e1
            rw [hw]
            exact h _ (hF v) (fun _ => hB v)
          have h179 : ((chr z t (skp z t (skp z t i + 1) + 1) ≠ 97 ∧ chr z t (skp z t (skp z t i + 1) + 1) ≠ 98) ∨ chr z t (skp z t (skp z t i + 1) + 1) = chr z t i) → WA X d 0 0 m_X11_round 179 [some (vR 75), none, none, none, none, none] [] (pst (sI (sI (sI M 84 p (nI (R.1 + 1))) 85 (6 * p + R.1) (nI (chr z t i - 97))) 86 (6 * p + R.1) (nI v)) none (skp z t (skp z t (skp z t i + 1) + 1))) Q := fun hq => by
            refine b_X11_round_179 (M := pst (sI (sI (sI M 84 p (nI (R.1 + 1))) 85 (6 * p + R.1) (nI (chr z t i - 97))) 86 (6 * p + R.1) (nI v)) none (skp z t (skp z t (skp z t i + 1) + 1))) hS (by omega) ?_
            rw [pst_3]
            exact sp_badP hS wn ⟨rfl, ExtP, fin _ (by rw [if_pos hq]; rfl)⟩
          have h173 : ∀ e : Nat, chr z t (skp z t (skp z t i + 1) + 1) = e → (e = 97 ∨ e = 98) → WA X d 0 0 m_X11_round 173 [some (vR 75), none, some (vI (nI (chr z t i))), none, none, some (vI (nI e))] [] (pst (sI (sI (sI M 84 p (nI (R.1 + 1))) 85 (6 * p + R.1) (nI (chr z t i - 97))) 86 (6 * p + R.1) (nI v)) none (skp z t (skp z t (skp z t i + 1) + 1))) Q := fun e he he2 => by
            refine b_X11_round_173 (M := pst (sI (sI (sI M 84 p (nI (R.1 + 1))) 85 (6 * p + R.1) (nI (chr z t i - 97))) 86 (6 * p + R.1) (nI v)) none (skp z t (skp z t (skp z t i + 1) + 1))) hS ⟨fun q9 => fin none ?_, fun q9 => h179 ?_⟩
            · rw [na_eq (by omega) (by omega)] at q9
              rw [he, if_neg (by omega)]
            · rw [na_eq (by omega) (by omega)] at q9
              rw [he]; exact Or.inr q9
          refine sp_lookP hS (hT3 v) (by omega) ⟨_, rfl, ExtP, fun q9 => ?_, fun q9 => ⟨fun q8 => ?_, fun q8 => ?_⟩⟩
          · rw [q9]
            exact h173 97 ((lkV_eq hT (by omega)).mp q9) (Or.inl rfl)
          · exact h179 (Or.inl ⟨fun z9 => q9 ((lkV_eq hT (by omega)).mpr z9), fun z9 => q8 ((lkV_eq hT (by omega)).mpr z9)⟩)
          · rw [q8]
            exact h173 98 ((lkV_eq hT (by omega)).mp q8) (Or.inr rfl)
        refine b_X11_round_114 (M := pst (sI (sI (sI M 84 p (nI (R.1 + 1))) 85 (6 * p + R.1) (nI (chr z t i - 97))) 86 (6 * p + R.1) (nI 3)) none (skp z t (skp z t i + 1))) hS ⟨fun q9 => ⟨fun q8 => h142 2 ?_, fun q8 => h142 1 ?_⟩, fun q9 => h142 0 ?_⟩
        · rw [na_eq (by omega) (by omega)] at q9 q8
          unfold dnP; rw [if_neg q9, if_neg q8]
        · rw [na_eq (by omega) (by omega)] at q9 q8
          unfold dnP; rw [if_neg q9, if_pos q8]
        · rw [na_eq (by omega) (by omega)] at q9
          unfold dnP; rw [if_pos q9]
      refine sp_lookP hS (hT3 3) (by omega) ⟨_, rfl, ExtP, fun q9 => ?_, fun q9 => ⟨fun q8 => ?_, fun q8 => ⟨fun q7 => ?_, fun q7 => ?_⟩⟩⟩
      · rw [q9]
        exact h114 62 ((lkV_eq hT (by omega)).mp q9) (by omega)
      · rw [q8]
        exact h114 43 ((lkV_eq hT (by omega)).mp q8) (by omega)
      · rw [q7]
        exact h114 47 ((lkV_eq hT (by omega)).mp q7) (by omega)
      · have hno : chr z t (skp z t i + 1) ≠ 62 ∧ chr z t (skp z t i + 1) ≠ 43 ∧ chr z t (skp z t i + 1) ≠ 47 := ⟨fun z9 => q9 ((lkV_eq hT (by omega)).mpr z9), fun z9 => q8 ((lkV_eq hT (by omega)).mpr z9), fun z9 => q7 ((lkV_eq hT (by omega)).mpr z9)⟩
        rw [if_pos hno] at h
        exact h _ (hF 3) (fun _ => hB 3)
    · rw [e69, na_eq (by omega) (by omega)] at q
      exact h28 (Or.inr q)
  refine e_X11_round (b_X11_round_0 (M := pst M none i) hS (by omega) (sp_lookP hS hT (by omega) ⟨_, rfl, ExtP, fun q => ?_, fun q => ⟨fun q2 => ?_, fun q2 => ?_⟩⟩))
  · have hc := (lkV_eq hT (by omega)).mp q
    rw [q]
    have := h17 (Or.inl hc)
    rw [hc] at this; exact this
  · exact h28 (Or.inl ⟨fun z9 => q ((lkV_eq hT (by omega)).mpr z9), fun z9 => q2 ((lkV_eq hT (by omega)).mpr z9)⟩)
  · have hc := (lkV_eq hT (by omega)).mp q2
    rw [q2]
    have := h17 (Or.inr hc)
    rw [hc] at this; exact this
theorem wa_rp22 {d kc ns : Nat} {Q : Option AV → Mem → Prop} (hd : 4 ≤ d) (hp : p < 9) {M0 : Mem} (hS0 : RfS M0) (hT0 : rT M0 z t) :
    ∀ (f : Nat) (w : Option Nat) (i : Nat) (R : ProT) (B : Mem), Fr (roS p) M0 B → wOk w → i < 2 ^ 19 → (w = none → i ≤ z ∧ z < i + f ∧ RnOK R ∧ 1 ≤ R.1 ∧ rPro B p R) →
    (∀ (B' : Mem) (j : Nat), Fr (roS p) M0 B' → ((rdsT z t f w i R).1 = none → ProOK (rdsT z t f w i R).2 ∧ rPro B' p (rdsT z t f w i R).2) → Q (some (vI (oI (rdsT z t f w i R).1))) (pst B' (rdsT z t f w i R).1 j)) →
    0 < f → WA X d kc ns m_X11_readProtocol 22 [some (vR 75), some (vI (nI p))] [] (pst B w i) Q := by
  intro f
  induction f with
  | zero => intro w i R B _ _ _ _ _ h0; omega
  | succ f ih =>
    intro w i R B hF hw hi19 hok h _
    have hS : RfS B := hS0.fr hF
    have hT : rT B z t := hT0.fr hF roS_T.1 roS_T.2
    have hz := hT.2.1
    cases w with
    | some e =>
      have hne : ¬ mI (pst B (some e) i) 75 4 = (-1) := by rw [pst_4]; exact na_m1 (by have := hw e rfl; omega)
      refine b_X11_readProtocol_22 (M := pst B (some e) i) hS (by omega) ⟨fun _ => b_X11_readProtocol_57 (M := pst B (some e) i) hS (by omega) ⟨fun _ => ?_, fun q => absurd q hne⟩, fun q => absurd q hne⟩
      rw [pst_4]
      exact h B i hF (fun q => by cases q)
    | none =>
      obtain ⟨hi1, hi2, hRo, hR1, hRd⟩ := hok rfl
      have he : mI (pst B none i) 75 4 = (-1) := pst_4
      have s1 := skp_ge z t i
      have s2 := skp_le z t i
      refine b_X11_readProtocol_22 (M := pst B none i) hS (by omega) ⟨fun q => absurd he q, fun _ => sp_lookP hS hT (by omega) ⟨_, rfl, ExtP, ⟨fun hq => ?_, fun hq M2 e2 => ?_⟩⟩⟩
      · have hc : ¬ chr z t i = 44 := fun q => hq ((lkV_eq hT (by omega)).mpr q)
        have he2 : mI (pst B none (skp z t i)) 75 4 = (-1) := pst_4
        refine b_X11_readProtocol_57 (M := pst B none (skp z t i)) hS (by omega) ⟨fun q => absurd he2 q, fun _ => sp_lookP hS hT (by omega) ⟨_, rfl, ExtP, ⟨fun hq2 => ?_, fun hq2 => ?_⟩⟩⟩
        · rw [skp_skp] at hq2 ⊢
          have hzz : ¬ skp z t i < z := by
            intro q
            unfold lkV at hq2
            rw [if_pos q] at hq2
            exact na_m1 (by have := (hT.2.2 _ q).2.2; omega) hq2
          rw [pst_4]
          have := h B (skp z t i) hF
          simp only [rdsT, if_neg hc, if_neg hzz] at this
          exact this (fun _ => ⟨⟨hR1, hRo.1, hRo.2⟩, hRd⟩)
        · rw [skp_skp] at hq2 ⊢
          have hzz : skp z t i < z := by
            rcases Nat.lt_or_ge (skp z t i) z with q | q
            · exact q
            · unfold lkV at hq2
              rw [if_neg (by omega)] at hq2
              exact absurd rfl hq2
          rw [pst_3]
          refine sp_badP hS hw ⟨rfl, ExtP, ?_⟩
          rw [pst_4]
          have := h B (skp z t i) hF
          simp only [rdsT, if_neg hc, if_pos hzz] at this
          exact this (fun q => by cases q)
      · have hc := (lkV_eq hT (by omega)).mp hq
        have hzz : skp z t i < z := chr_pos hc (by decide)
        rw [pst_3, nI_add, pst_sI3] at e2
        subst e2
        refine sp_round (by omega) hS hT (by omega) hp hRo hRd (fun B1 hF1 hB1 => ⟨rfl, ExtPP hF1.ext, ?_⟩)
        refine ih _ _ (rdT z t R (skp z t i + 1)).2.2 B1 (hF.trans hF1) (rdT_w hz (by omega)) (rdT_i hz (by omega)) (fun hn => ?_) ?_ ?_
        · obtain ⟨q1, q2, q3⟩ := rdT_go hn
          exact ⟨q2, by omega, rdT_ok hRo, by omega, hB1 hn⟩
        · intro B' j hF' hB'
          have := h B' j hF'
          simp only [rdsT, if_pos hc] at this
          exact this hB'
        · omega
theorem sp_readProtocol {d : Nat} {Q : Option AV → Mem → Prop} {M : Mem} (hd : 5 ≤ d) (hS : RfS M) (hT : rT M z t) (hp : p < 9)
    (h : ∀ (B : Mem) (j : Nat), Fr (roS p) M B → ((protT z t).1 = none → ProOK (protT z t).2 ∧ rPro B p (protT z t).2) → Q (some (vI (oI (protT z t).1))) (pst B (protT z t).1 j)) :
    Cl X d 0 0 m_X11_readProtocol [vR 75, vI (nI p)] M Q := by
  have hz := hT.2.1
  refine e_X11_readProtocol (b_X11_readProtocol_0 hS (by omega) (fun M1 e1 M2 e2 => ⟨na_in hp (by omega), fun M3 e3 => ?_⟩))
  subst e1
  have e2 : M2 = pst M none 0 := e2
  subst e2
  rw [na_ix (by omega), pst_sI (by decide)] at e3
  subst e3
  have hF3 : Fr (roS p) M (sI M 84 p (nI 0)) := Fr.sI (Or.inl ⟨rfl, rfl⟩)
  refine sp_round (R := R0) (by omega) hS (hT.fr hF3 roS_T.1 roS_T.2) (by omega) hp ⟨by decide, fun r => ⟨by show 0 ≤ 1; omega, by show 3 ≤ 3; omega⟩⟩ ⟨mI_sI_eq, fun r hr => by have hr : r < 0 := hr; omega⟩ (fun B hF hB => ⟨rfl, ExtPP hF.ext, ?_⟩)
  refine wa_rp22 (M0 := M) (by omega) hp hS hT 301 _ _ (rdT z t R0 0).2.2 B (hF3.trans hF) (rdT_w hz (by omega)) (rdT_i hz (by omega)) (fun hn => ?_) h (by decide)
  obtain ⟨q1, q2, q3⟩ := rdT_go hn
  exact ⟨q2, by omega, rdT_ok ⟨by decide, fun r => ⟨by show 0 ≤ 1; omega, by show 3 ≤ 3; omega⟩⟩, by omega, hB hn⟩
end PROTO
