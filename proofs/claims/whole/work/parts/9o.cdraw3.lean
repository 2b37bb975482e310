/-! THE CLASS: the first of two cuts; halves; what comes -/
def dfI (g : Nat) (q : Option Int × Option Int) : Int × Int := (sgI g (q.1.getD 0), sgI g (secV q))
section ROUNDS
variable {X : Cx} {la pr g : Nat} {ot : Bool} {L : LandT} {P : ProT} {M : Mem} {Q : Option AV → Mem → Prop}
theorem kp_drawFirst {m o d : Nat} (hd : 4 ≤ d) (h : MX M la pr L P g ot) (hm : 1 ≤ m ∧ m ≤ L.2.1) (ho : o < 2 ^ L.1) (hk : P.2.2 ((L.2.1 - m) % P.1) = 2)
    (hq : ∀ B, Frr (mnS m) (mnT m) M B → MX B la pr L P g ot → mI B 38 9 = chI (rbF L P g ot m o) → Q (some (vI (zI (sgI g (cmF L P g ot m o))))) B) : Cl X d 0 0 m_X5_drawFirst [vR 38, vI (nI o), vI (nI m)] M Q := by
  have hdr := drF_le h.2.2.2.2.1 ot ((L.2.1 - m) % P.1)
  have hL := h.2.1.2.2
  have hs4 := hL.2.1
  have h49 : 4 ^ L.1 ≤ 4 ^ 9 := Nat.pow_le_pow_right (by decide) hL.1.2
  have h49e : (4 : Nat) ^ 9 = 262144 := rfl
  have hlen := lsL_len (L := L) (o := o) (m := m) hL.1.2 (by omega)
  have er : rbF L P g ot m o = prF (grB g (drF P ot ((L.2.1 - m) % P.1))) (fun c => cwL L g c o m) (lsL L o m) := by
    unfold rbF; rw [if_neg (by omega), if_pos hk]
  rw [rb_val1 hm.1] at hq
  obtain ⟨v1, v2⟩ := sec_val (gr := grB g (drF P ot ((L.2.1 - m) % P.1))) (W := fun c => cwL L g c o m) (lsL L o m)
  rw [er, v2, v1] at hq
  have hlow := fun (d' : Nat) (v : Int) (C : Mem) (Q' : Option AV → Mem → Prop) (hd' : 3 ≤ d') (hX : MX C la pr L P g ot) (hv : -20 ≤ v ∧ v ≤ 20) => kp_lowest (X := X) (d := d') (Q := Q') (v := v) (o := o) hd' hX hm ho hv
  generalize hdre : drF P ot ((L.2.1 - m) % P.1) = dr at hdr hq hlow
  have cw := fun c => cwb L g c o (m := m) (by omega)
  have key : ∀ xs i (B : Mem) (N : Nat) (q : Option Int × Option Int), i + xs.length ≤ 8000 → ((q.1 = none ↔ i = 0) ∧ (q.2 = none ↔ i ≤ 1)) → ((∀ v, q.1 = some v → -20 ≤ v ∧ v ≤ 20) ∧ ∀ v, q.2 = some v → -20 ≤ v ∧ v ≤ 20) → Frr (mnS m) (mnT m) M B → MX B la pr L P g ot → cuW B (43 + 6 * (m - 1)) (la + 8) (lwB L) 2 L.1 o m N xs → xs.foldl (fun q c => bnT (grB g dr) q (cwL L g c o m)) q = (lsL L o m).foldl (fun q c => bnT (grB g dr) q (cwL L g c o m)) (none, none) → WA X d 0 0 m_X5_drawFirst 23 [some (vR 38), some (vI (nI o)), some (vI (nI m)), some (vI (nI dr)), some (vI (zI (dfI g q).1)), some (vI (zI (dfI g q).2)), some (vI (nI i)), some (vR (43 + 6 * (m - 1))), none] [] B Q := by
    intro xs
    induction xs with
    | nil =>
      intro i B N q hi hqi hqb hF hX hW he
      have hi : i + 0 ≤ 8000 := hi
      have he : q = _ := he
      have sb : -20 ≤ secV q ∧ secV q ≤ 20 := by
        unfold secV
        cases h2 : q.2 with
        | some s => exact hqb.2 s h2
        | none =>
          cases h1 : q.1 with
          | none => simp
          | some b => exact hqb.1 b h1
      refine b_X5_drawFirst_23 hX.1.1 (by omega) ⟨fun w => absurd (by rw [na_le (by decide) (by omega)] at w; omega) (id : False → False), fun _ => ⟨hW.2.1.1, kp_next (by omega) hW (fun hx C hFC hBC => ⟨_, rfl, hFC.ext, fun _ => ?_, fun w => absurd rfl w⟩) (fun y ys hy => by cases hy)⟩⟩
      have hFC2 := cu_ms (T := mnT m) ⟨hm.1, by omega⟩ hFC
      have hXC := hX.ms (by omega) hFC2
      refine b_X5_drawFirst_122 hXC.1.1 (by omega) (hlow (d - 1) (secV q) C _ (by omega) hXC sb (fun D hFD hXD => ⟨_, rfl, mn_ext hXC hFD, fun M2 e2 => ?_⟩))
      obtain ⟨s1, s2, s3⟩ := mn_self (m := m) hXD (by omega) e2
      have h9 := hq M2 (((hF.trans (ms_mn hFC2)).trans hFD).trans s1) s2 (by rw [s3, he])
      rw [← he] at h9
      exact h9
    | cons x xs ih =>
      intro i B N q hi hqi hqb hF hX hW he
      simp only [List.length_cons] at hi
      have wb := cw x
      have wsb := sgI_b g wb
      refine b_X5_drawFirst_23 hX.1.1 (by omega) ⟨fun w => absurd (by rw [na_le (by decide) (by omega)] at w; omega) (id : False → False), fun _ => ⟨hW.2.1.1, kp_next (by omega) hW (fun hx => by cases hx) (fun y ys hy C hFC hWC hXC hpC => ⟨_, rfl, hFC.ext, fun w => absurd w (by decide), fun _ => ?_⟩)⟩⟩
      cases hy
      have hFC2 := cu_ms (T := mnT m) ⟨hm.1, by omega⟩ hFC
      have hMC := hX.ms (by omega) hFC2
      have hF2 := hF.trans (ms_mn hFC2)
      rw [hMC.1.2.1.1, hMC.1.2.2.1.2.1]
      refine ⟨hMC.2.1.1.1, kp_mworth (by omega) hMC (by omega) hWC.2.1.1.k0 hpC ⟨_, rfl, Ext.refl _, ?_⟩⟩
      have estep : (x :: xs).foldl (fun q c => bnT (grB g dr) q (cwL L g c o m)) q = xs.foldl (fun q c => bnT (grB g dr) q (cwL L g c o m)) (bnT (grB g dr) q (cwL L g x o m)) := rfl
      rw [estep] at he
      obtain ⟨q1, q2⟩ := q
      dsimp only at hqi hqb
      rw [nI_add]
      have go : ∀ (q' : Option Int × Option Int) (l4 l5 : Int32), bnT (grB g dr) (q1, q2) (cwL L g x o m) = q' → l4 = zI (dfI g q').1 → l5 = zI (dfI g q').2 → (q'.1 ≠ none ∧ (q'.2 = none ↔ i = 0)) → ((∀ v, q'.1 = some v → -20 ≤ v ∧ v ≤ 20) ∧ ∀ v, q'.2 = some v → -20 ≤ v ∧ v ≤ 20) → WA X d 0 0 m_X5_drawFirst 23 [some (vR 38), some (vI (nI o)), some (vI (nI m)), some (vI (nI dr)), some (vI l4), some (vI l5), some (vI (nI (i + 1))), some (vR (43 + 6 * (m - 1))), none] [] C Q := fun q' l4 l5 e1 e2 e3 e4 e5 => by
        rw [e1] at he
        rw [e2, e3]
        exact ih (i + 1) C N q' (by omega) ⟨⟨fun z => absurd z e4.1, fun z => by omega⟩, ⟨fun z => by have := e4.2.mp z; omega, fun z => e4.2.mpr (by omega)⟩⟩ e5 hF2 hMC hWC he
      cases q1 with
      | none =>
        have i0 : i = 0 := hqi.1.mp rfl
        subst i0
        refine ⟨fun w => absurd rfl w, fun _ => ?_⟩
        exact go (some (cwL L g x o m), none) _ _ rfl rfl rfl ⟨by simp, by simp⟩ ⟨fun v hv => by cases hv; exact wb, fun v hv => by cases hv⟩
      | some b =>
        have bb := hqb.1 b rfl
        have bsb := sgI_b g bb
        have hi0 : i ≠ 0 := fun z => by have := hqi.1.mpr z; cases this
        refine ⟨fun _ => ?_, fun w => absurd ((na_eq (by omega) (by decide)).mp w) hi0⟩
        have e1 : (dfI g (some b, q2)).1 = sgI g b := rfl
        rw [e1]
        refine kp_prefers (by omega) (by omega) hdr ⟨_, rfl, Ext.refl _, ?_⟩
        rw [bI_0, prB_of hdr]
        have hbn : bnT (grB g dr) (some b, q2) (cwL L g x o m) = if (if grB g dr then decide (b < cwL L g x o m) else decide (cwL L g x o m < b)) = true then (some (cwL L g x o m), some b) else (some b, some (beI (grB g dr) q2 (cwL L g x o m))) := by
          unfold bnT
          dsimp only
          cases grB g dr <;> simp
        refine ⟨fun w => ?_, fun w => ?_⟩
        · rw [w, if_neg (by decide)] at hbn
          cases q2 with
          | none =>
            have i1 : i = 1 := by have := hqi.2.mp rfl; omega
            subst i1
            refine ⟨fun _ => go _ _ _ hbn rfl rfl ⟨by simp, by simp⟩ ⟨fun v hv => by cases hv; exact bb, fun v hv => by cases hv; exact wb⟩, fun w2 => absurd rfl w2⟩
          | some s =>
            have sb := hqb.2 s rfl
            have ssb := sgI_b g sb
            have hi1 : i ≠ 1 := fun z => by have := hqi.2.mpr (by omega); cases this
            refine ⟨fun w2 => absurd ((na_eq (by omega) (by decide)).mp w2) hi1, fun _ => ?_⟩
            have e2 : (dfI g (some b, some s)).2 = sgI g s := rfl
            rw [e2]
            refine kp_prefers (by omega) (by omega) hdr ⟨_, rfl, Ext.refl _, ?_⟩
            rw [bI_0, prB_of hdr]
            have hbe : beI (grB g dr) (some s) (cwL L g x o m) = if (if grB g dr then decide (s < cwL L g x o m) else decide (cwL L g x o m < s)) = true then cwL L g x o m else s := by
              unfold beI
              dsimp only
              cases grB g dr <;> simp
            refine ⟨fun w3 => ?_, fun w3 => ?_⟩
            · rw [w3, if_neg (by decide)] at hbe
              rw [hbe] at hbn
              exact go _ _ _ hbn rfl rfl ⟨by simp, ⟨fun z => (by cases z), fun z => absurd z hi0⟩⟩ ⟨fun v hv => by cases hv; exact bb, fun v hv => by cases hv; exact sb⟩
            · rw [eq_true_of_ne_false w3, if_pos rfl] at hbe
              rw [hbe] at hbn
              exact go _ _ _ hbn rfl rfl ⟨by simp, ⟨fun z => (by cases z), fun z => absurd z hi0⟩⟩ ⟨fun v hv => by cases hv; exact bb, fun v hv => by cases hv; exact wb⟩
        · rw [eq_true_of_ne_false w, if_pos rfl] at hbn
          exact go _ _ _ hbn rfl rfl ⟨by simp, ⟨fun z => (by cases z), fun z => absurd z hi0⟩⟩ ⟨fun v hv => by cases hv; exact wb, fun v hv => by cases hv; exact bb⟩
  refine e_X5_drawFirst (b_X5_drawFirst_0 h.1.1 (by omega) (kp_drawer h hm ⟨_, rfl, Ext.refl _, ?_⟩))
  rw [hdre]
  refine kp_cutsOf h (by omega) hm ho (fun B N hFB hWB => ⟨_, rfl, hFB.ext (mnT_ok h), ?_⟩)
  have e0 : zI (dfI g (none, none)).1 = nI 0 ∧ zI (dfI g (none, none)).2 = nI 0 := by
    have a : (dfI g (none, none)).1 = 0 := sgI_0 g
    have b : (dfI g (none, none)).2 = 0 := sgI_0 g
    rw [a, b]; exact ⟨rfl, rfl⟩
  have k0 := key (lsL L o m) 0 B N (none, none) (by omega) ⟨by simp, by simp⟩ ⟨fun v hv => (by cases hv), fun v hv => (by cases hv)⟩ (ms_mn hFB) (h.ms (by omega) hFB) hWB rfl
  rw [e0.1, e0.2] at k0
  exact k0
theorem hv_filter {gr : Bool} {o m : Nat} (hm : 2 * m ≤ 8) : hvF L g gr true o m = ((enB 3 L.1 o (2 * m) L.1 0 0).filter (vlB (hgB L) 3 L.1 o (2 * m))).foldl (hvT L g gr true o (2 * m)) none := by
  unfold hvF
  have key : ∀ (xs : List Nat) (st : Option (Int × Nat)), (∀ x, x ∈ xs → nuF 3 L.1 x o L.1 = some (2 * m)) → xs.foldl (hvT L g gr true o (2 * m)) st = (xs.filter (vlB (hgB L) 3 L.1 o (2 * m))).foldl (hvT L g gr true o (2 * m)) st := by
    intro xs
    induction xs with
    | nil => intro st _; rfl
    | cons x xs ih =>
      intro st hx
      have hxs := fun y hy => hx y (List.mem_cons_of_mem x hy)
      rw [List.filter_cons]
      split
      · rw [List.foldl_cons, List.foldl_cons]; exact ih _ hxs
      · rename_i hv
        have e : hvT L g gr true o (2 * m) st x = st := by
          unfold hvT
          rw [if_neg]
          intro w
          unfold okH at w
          rw [Bool.and_eq_true] at w
          exact hv (by rw [vl_hang (hx x (by simp))]; exact w.1)
        rw [List.foldl_cons, e]; exact ih st hxs
  exact key _ none (fun x hx => enB3_nu hm hx)
end ROUNDS
