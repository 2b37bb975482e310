/-! THE CLASS: all cuts, two cuts, halves -/
def daI (g : Nat) (acc : Option (Int × Nat)) : Int × Int32 := match acc with
  | none => (0, -1)
  | some q => (sgI g q.1, nI q.2)
theorem daI_ch (g : Nat) (acc : Option (Int × Nat)) : (daI g acc).2 = chI acc := by cases acc <;> rfl
theorem daI_v (g : Nat) (acc : Option (Int × Nat)) : (daI g acc).1 = sgI g (vlO acc) := by
  cases acc with
  | none => exact (sgI_0 g).symm
  | some q => rfl
def secV (q : Option Int × Option Int) : Int := match q.2 with
  | some s => s
  | none => q.1.getD 0
def fiI (q : Option Nat) : Int32 := match q with
  | none => -1
  | some c => nI c
theorem sec_val {gr : Bool} {W : Nat → Int} (ls : List Nat) : vlO (prF gr W ls) = secV (ls.foldl (fun q c => bnT gr q (W c)) (none, none)) ∧ chI (prF gr W ls) = fiI (ls.find? (atl gr W (secV (ls.foldl (fun q c => bnT gr q (W c)) (none, none))))) := by
  cases ls with
  | nil => exact ⟨rfl, rfl⟩
  | cons y ys =>
    cases ys with
    | nil =>
      have e : atl gr W (W y) y = true := by unfold atl; cases gr <;> simp
      have e2 : ([y].foldl (fun q c => bnT gr q (W c)) (none, none)) = (some (W y), none) := rfl
      rw [e2]
      refine ⟨rfl, ?_⟩
      show nI y = fiI ([y].find? (atl gr W (W y)))
      rw [List.find?_cons, e]; rfl
    | cons z ys =>
      obtain ⟨s, n, a1, a2, a3⟩ := prF_two (gr := gr) (W := W) (y := y) (z := z) (ys := ys)
      have es : secV ((y :: z :: ys).foldl (fun q c => bnT gr q (W c)) (none, none)) = s := by unfold secV; rw [a1]
      rw [es, a2, a3]
      exact ⟨rfl, rfl⟩
theorem le_ndec (a b : Int) : decide (a ≤ b) = !decide (b < a) := by
  by_cases h : a ≤ b
  · rw [decide_eq_true h, decide_eq_false (by omega)]; rfl
  · rw [decide_eq_false h, decide_eq_true (by omega)]; rfl
theorem atl_pr {g dr : Nat} {W : Nat → Int} {v : Int} {c : Nat} (hdr : dr ≤ 1) : atl (grB g dr) W v c = !prB dr (sgI g v) (sgI g (W c)) := by
  rw [prB_of hdr]
  unfold atl
  cases grB g dr <;> simp <;> exact le_ndec _ _
section ROUNDS
variable {X : Cx} {la pr g : Nat} {ot : Bool} {L : LandT} {P : ProT} {M : Mem} {Q : Option AV → Mem → Prop}
/-- a cut's worth, as the mind asks for it -/
theorem kp_mworth {m c o hb d : Nat} (hd : 1 ≤ d) (h : MX M la pr L P g ot) (hm : m ≤ 4) (hk : isK M hb 14 8) (hp : ∀ s, s < m → mI M hb s = nI (sOB 2 L.1 c o s)) (hq : Q (some (vI (zI (sgI g (cwL L g c o m))))) M) : Cl X d 0 0 m_X3_worthOfAll [vR la, vR hb, vI (nI m), vI (nI g)] M Q := by
  rw [← cw_sg] at hq
  exact kp_worthOfAll (f := fun s => sOB 2 L.1 c o s) hd h.2.1 hk (by omega) (fun s hs => ⟨sOB_lt _ _ _ _ _, hp s hs⟩) h.1.2.2.1.2.2 hq
theorem cwb (L : LandT) (g c o : Nat) {m : Nat} (hm : m ≤ 4) : -20 ≤ cwL L g c o m ∧ cwL L g c o m ≤ 20 := by
  have := cwL_b L g c o m
  omega
theorem kp_drawAll {m o d : Nat} (hd : 4 ≤ d) (h : MX M la pr L P g ot) (hm : 1 ≤ m ∧ m ≤ L.2.1) (ho : o < 2 ^ L.1) (hk : P.2.2 ((L.2.1 - m) % P.1) = 3)
    (hq : ∀ B, Frr (mnS m) (mnT m) M B → MX B la pr L P g ot → mI B 38 9 = chI (rbF L P g ot m o) → Q (some (vI (zI (sgI g (cmF L P g ot m o))))) B) : Cl X d 0 0 m_X5_drawAll [vR 38, vI (nI o), vI (nI m)] M Q := by
  have hdr := drF_le h.2.2.2.2.1 ot ((L.2.1 - m) % P.1)
  have hL := h.2.1.2.2
  have hs4 := hL.2.1
  have h49 : 4 ^ L.1 ≤ 4 ^ 9 := Nat.pow_le_pow_right (by decide) hL.1.2
  have h49e : (4 : Nat) ^ 9 = 262144 := rfl
  have hlen := lsL_len (L := L) (o := o) (m := m) hL.1.2 (by omega)
  have er : rbF L P g ot m o = fbF (grB g (drF P ot ((L.2.1 - m) % P.1))) (fun c => cwL L g c o m) (lsL L o m) none := by
    unfold rbF; rw [if_neg (by omega), if_neg (by omega)]
    congr 1
    funext c
    unfold cmV; rw [if_neg (by omega)]
  rw [rb_val1 hm.1] at hq
  rw [er] at hq
  generalize hdre : drF P ot ((L.2.1 - m) % P.1) = dr at hdr hq
  have key : ∀ xs i (B : Mem) (N : Nat) (acc : Option (Int × Nat)), i + xs.length ≤ 8000 → (∀ q, acc = some q → (-20 ≤ q.1 ∧ q.1 ≤ 20) ∧ q.2 < 2 ^ 31) → (∀ x, x ∈ xs → x < 2 ^ 31) → Frr (mnS m) (mnT m) M B → MX B la pr L P g ot → cuW B (43 + 6 * (m - 1)) (la + 8) (lwB L) 2 L.1 o m N xs → fbF (grB g dr) (fun c => cwL L g c o m) xs acc = fbF (grB g dr) (fun c => cwL L g c o m) (lsL L o m) none → WA X d 0 0 m_X5_drawAll 23 [some (vR 38), none, some (vI (nI m)), some (vI (nI dr)), some (vI (zI (daI g acc).1)), some (vI (daI g acc).2), some (vR (43 + 6 * (m - 1))), some (vI (nI i)), none] [] B Q := by
    intro xs
    induction xs with
    | nil =>
      intro i B N acc hi hacc hxs hF hX hW he
      have hi : i + 0 ≤ 8000 := hi
      have he : acc = _ := he
      refine b_X5_drawAll_23 hX.1.1 (by omega) ⟨fun w => absurd (by rw [na_le (by decide) (by omega)] at w; omega) (id : False → False), fun _ => ⟨hW.2.1.1, kp_next (by omega) hW (fun hx C hFC hBC => ⟨_, rfl, hFC.ext, fun _ => ?_, fun w => absurd rfl w⟩) (fun y ys hy => by cases hy)⟩⟩
      have hFC2 := cu_ms (T := mnT m) ⟨hm.1, by omega⟩ hFC
      have hXC := hX.ms (by omega) hFC2
      refine b_X5_drawAll_92 hXC.1.1 (fun M1 e1 => ?_)
      obtain ⟨s1, s2, s3⟩ := mn_self (m := m) hXC (by omega) e1
      have h9 := hq M1 ((hF.trans (ms_mn hFC2)).trans s1) s2 (by rw [s3, ← he, daI_ch])
      rw [← he] at h9
      rw [daI_v]; exact h9
    | cons x xs ih =>
      intro i B N acc hi hacc hxs hF hX hW he
      simp only [List.length_cons] at hi
      have x31 := hxs x (by simp)
      have wb := cwb L g x o (m := m) (by omega)
      have wsb := sgI_b g wb
      refine b_X5_drawAll_23 hX.1.1 (by omega) ⟨fun w => absurd (by rw [na_le (by decide) (by omega)] at w; omega) (id : False → False), fun _ => ⟨hW.2.1.1, kp_next (by omega) hW (fun hx => by cases hx) (fun y ys hy C hFC hWC hXC hpC => ⟨_, rfl, hFC.ext, fun w => absurd w (by decide), fun _ => ?_⟩)⟩⟩
      cases hy
      have hFC2 := cu_ms (T := mnT m) ⟨hm.1, by omega⟩ hFC
      have hMC := hX.ms (by omega) hFC2
      have hF2 := hF.trans (ms_mn hFC2)
      rw [hMC.1.2.1.1, hMC.1.2.2.1.2.1]
      refine ⟨hMC.2.1.1.1, kp_mworth (by omega) hMC (by omega) hWC.2.1.1.k0 hpC ⟨_, rfl, Ext.refl _, ?_⟩⟩
      have estep : fbF (grB g dr) (fun c => cwL L g c o m) (x :: xs) acc = fbF (grB g dr) (fun c => cwL L g c o m) xs (ofT (grB g dr) acc x (cwL L g x o m)) := rfl
      rw [estep] at he
      have hxs' : ∀ z, z ∈ xs → z < 2 ^ 31 := fun z hz => hxs z (by simp [hz])
      have take : ofT (grB g dr) acc x (cwL L g x o m) = some (cwL L g x o m, x) → WA X d 0 0 m_X5_drawAll 74 [some (vR 38), none, some (vI (nI m)), some (vI (nI dr)), none, none, some (vR (43 + 6 * (m - 1))), some (vI (nI i)), some (vI (zI (sgI g (cwL L g x o m))))] [] C Q := fun ht => by
        rw [ht] at he
        refine b_X5_drawAll_74 hMC.1.1 (by omega) ⟨hWC.2.1.1, kp_number0 hWC.1 hWC.2.1 (by decide) (by omega) hXC ⟨_, rfl, Ext.refl _, ?_⟩⟩
        rw [nI_add]
        exact ih (i + 1) C N (some (cwL L g x o m, x)) (by omega) (fun q hq2 => by cases hq2; exact ⟨wb, x31⟩) hxs' hF2 hMC hWC he
      cases acc with
      | none => exact ⟨fun _ => take rfl, fun w => absurd rfl w⟩
      | some q =>
        have qb := sgI_b g (hacc q rfl).1
        refine ⟨fun w => absurd w (na_m1 (hacc q rfl).2), fun _ => ?_⟩
        show Cl X (d - 1) 0 0 m_X5_prefers [vI (nI dr), vI (zI (sgI g (cwL L g x o m))), vI (zI (sgI g q.1))] C _
        refine kp_prefers (by omega) (by omega) hdr ⟨_, rfl, Ext.refl _, ?_⟩
        rw [bI_0]
        refine ⟨fun w => ?_, fun w => take (by rw [prB_ofT hdr, if_pos (eq_true_of_ne_false w)])⟩
        rw [prB_ofT hdr, if_neg (by rw [w]; decide)] at he
        rw [nI_add]
        exact ih (i + 1) C N (some q) (by omega) hacc hxs' hF2 hMC hWC he
  refine e_X5_drawAll (b_X5_drawAll_0 h.1.1 (by omega) (kp_drawer h hm ⟨_, rfl, Ext.refl _, ?_⟩))
  rw [hdre]
  refine kp_cutsOf h (by omega) hm ho (fun B N hFB hWB => ⟨_, rfl, hFB.ext (mnT_ok h), ?_⟩)
  exact key (lsL L o m) 0 B N none (by omega) (fun q hq2 => by cases hq2) (fun x hx => by
    have := (lsL_ok (by omega) hx).1
    omega) (ms_mn hFB) (h.ms (by omega) hFB) hWB rfl
theorem kp_lowest {m o d : Nat} {v : Int} (hd : 3 ≤ d) (h : MX M la pr L P g ot) (hm : 1 ≤ m ∧ m ≤ L.2.1) (ho : o < 2 ^ L.1) (hv : -20 ≤ v ∧ v ≤ 20)
    (hq : ∀ B, Frr (mnS m) (mnT m) M B → MX B la pr L P g ot → Q (some (vI (fiI ((lsL L o m).find? (atl (grB g (drF P ot ((L.2.1 - m) % P.1))) (fun c => cwL L g c o m) v))))) B) : Cl X d 0 0 m_X5_lowestWorth [vR 38, vI (nI o), vI (nI m), vI (zI (sgI g v))] M Q := by
  have hdr := drF_le h.2.2.2.2.1 ot ((L.2.1 - m) % P.1)
  have hL := h.2.1.2.2
  have hs4 := hL.2.1
  have h49 : 4 ^ L.1 ≤ 4 ^ 9 := Nat.pow_le_pow_right (by decide) hL.1.2
  have h49e : (4 : Nat) ^ 9 = 262144 := rfl
  have hlen := lsL_len (L := L) (o := o) (m := m) hL.1.2 (by omega)
  have vsb := sgI_b g hv
  generalize hdre : drF P ot ((L.2.1 - m) % P.1) = dr at hdr hq
  have key : ∀ xs i (B : Mem) (N : Nat), i + xs.length ≤ 8000 → (∀ x, x ∈ xs → x < 2 ^ 31) → Frr (mnS m) (mnT m) M B → MX B la pr L P g ot → cuW B (43 + 6 * (m - 1)) (la + 8) (lwB L) 2 L.1 o m N xs → xs.find? (atl (grB g dr) (fun c => cwL L g c o m) v) = (lsL L o m).find? (atl (grB g dr) (fun c => cwL L g c o m) v) → WA X d 0 0 m_X5_lowestWorth 18 [some (vR 38), none, some (vI (nI m)), some (vI (zI (sgI g v))), some (vI (nI dr)), some (vR (43 + 6 * (m - 1))), some (vI (nI i))] [] B Q := by
    intro xs
    induction xs with
    | nil =>
      intro i B N hi hxs hF hX hW he
      have hi : i + 0 ≤ 8000 := hi
      refine b_X5_lowestWorth_18 hX.1.1 (by omega) ⟨fun w => absurd (by rw [na_le (by decide) (by omega)] at w; omega) (id : False → False), fun _ => ⟨hW.2.1.1, kp_next (by omega) hW (fun hx C hFC hBC => ⟨_, rfl, hFC.ext, fun _ => ?_, fun w => absurd rfl w⟩) (fun y ys hy => by cases hy)⟩⟩
      have hFC2 := cu_ms (T := mnT m) ⟨hm.1, by omega⟩ hFC
      have h9 := hq C (hF.trans (ms_mn hFC2)) (hX.ms (by omega) hFC2)
      rw [← he] at h9; exact h9
    | cons x xs ih =>
      intro i B N hi hxs hF hX hW he
      simp only [List.length_cons] at hi
      have x31 := hxs x (by simp)
      have wb := cwb L g x o (m := m) (by omega)
      have wsb := sgI_b g wb
      refine b_X5_lowestWorth_18 hX.1.1 (by omega) ⟨fun w => absurd (by rw [na_le (by decide) (by omega)] at w; omega) (id : False → False), fun _ => ⟨hW.2.1.1, kp_next (by omega) hW (fun hx => by cases hx) (fun y ys hy C hFC hWC hXC hpC => ⟨_, rfl, hFC.ext, fun w => absurd w (by decide), fun _ => ?_⟩)⟩⟩
      cases hy
      have hFC2 := cu_ms (T := mnT m) ⟨hm.1, by omega⟩ hFC
      have hMC := hX.ms (by omega) hFC2
      have hF2 := hF.trans (ms_mn hFC2)
      rw [hMC.1.2.1.1, hMC.1.2.2.1.2.1]
      refine ⟨hMC.2.1.1.1, kp_mworth (by omega) hMC (by omega) hWC.2.1.1.k0 hpC ⟨_, rfl, Ext.refl _, ?_⟩⟩
      refine kp_prefers (by omega) (by omega) hdr ⟨_, rfl, Ext.refl _, ?_⟩
      rw [bI_0]
      rw [List.find?_cons, atl_pr hdr] at he
      refine ⟨fun w => ?_, fun w => ?_⟩
      · rw [eq_true_of_ne_false w] at he
        rw [nI_add]
        exact ih (i + 1) C N (by omega) (fun z hz => hxs z (by simp [hz])) hF2 hMC hWC he
      · rw [w] at he
        have h9 := hq C hF2 hMC
        rw [← he] at h9
        exact kp_number0 hWC.1 hWC.2.1 (by decide) (by omega) hXC ⟨_, rfl, Ext.refl _, h9⟩
  refine e_X5_lowestWorth (b_X5_lowestWorth_0 h.1.1 (by omega) (kp_drawer h hm ⟨_, rfl, Ext.refl _, ?_⟩))
  rw [hdre]
  refine kp_cutsOf h (by omega) hm ho (fun B N hFB hWB => ⟨_, rfl, hFB.ext (mnT_ok h), ?_⟩)
  exact key (lsL L o m) 0 B N (by omega) (fun x hx => by
    have := (lsL_ok (by omega) hx).1
    omega) (ms_mn hFB) (h.ms (by omega) hFB) hWB rfl
end ROUNDS
