/-! THE CLASS: halves drawn; what comes from a round on -/
section ROUNDS
variable {X : Cx} {la pr g : Nat} {ot : Bool} {L : LandT} {P : ProT} {M : Mem} {Q : Option AV → Mem → Prop}
theorem hv_step {dr o m x : Nat} {acc : Option (Int × Nat)} (hdr : dr ≤ 1) (hm : m ≤ 4) (hx : nuF 3 L.1 x o L.1 = some (2 * m)) (hv : vlB (hgB L) 3 L.1 o (2 * m) x = true) : hvT L g (grB g dr) true o (2 * m) acc x = match joW L (sOB 3 L.1 x o) (pcut L x o) m (1 - dr) g with
    | none => acc
    | some b => ofT (grB g dr) acc x (sgI g b.2) := by
  have hs := joW_some (L := L) (P := sOB 3 L.1 x o) (NU := pcut L x o) (g := g) (pl := 1 - dr) hm (by omega)
  rw [vl_hang hx] at hv
  unfold hvT okH
  rw [hv, Bool.true_and]
  cases hj : joW L (sOB 3 L.1 x o) (pcut L x o) m (1 - dr) g with
  | none =>
    rw [hj] at hs
    have hs : false = _ := hs
    rw [← hs]
    simp
  | some b =>
    have hv2 := joW_val hm (show 1 - dr ≤ 1 by omega) hj
    rw [grB_not hdr] at hv2
    rw [hj] at hs
    have hs : true = _ := hs
    rw [← hs, if_pos rfl, if_pos rfl, hv2]
    unfold ofT
    cases acc with
    | none => rfl
    | some q => rfl
theorem kp_drawHalves {m o d : Nat} (hd : m + 4 ≤ d) (h : MX M la pr L P g ot) (hm : 1 ≤ m ∧ m ≤ L.2.1) (ho : o < 2 ^ L.1) (hk : P.2.2 ((L.2.1 - m) % P.1) = 1)
    (hq : ∀ B, Frr (mnS m) (mnT m) M B → MX B la pr L P g ot → mI B 38 9 = chI (rbF L P g ot m o) → Q (some (vI (zI (sgI g (cmF L P g ot m o))))) B) : Cl X d 0 0 m_X5_drawHalves [vR 38, vI (nI o), vI (nI m)] M Q := by
  have hdr := drF_le h.2.2.2.2.1 ot ((L.2.1 - m) % P.1)
  have hL := h.2.1.2.2
  have hs4 := hL.2.1
  have hg3 := h.1.2.2.1.2.2
  have h8p := p8 hL.1.2
  have er : rbF L P g ot m o = hvF L g (grB g (drF P ot ((L.2.1 - m) % P.1))) true o m := by
    unfold rbF; rw [if_pos hk]
  rw [rb_val1 hm.1] at hq
  rw [er, hv_filter (by omega)] at hq
  generalize hdre : drF P ot ((L.2.1 - m) % P.1) = dr at hdr hq
  have d1 : nI 1 - nI dr = nI (1 - dr) := na_sub hdr
  have hlen : ((enB 3 L.1 o (2 * m) L.1 0 0).filter (vlB (hgB L) 3 L.1 o (2 * m))).length ≤ 400000 := Nat.le_trans (List.length_filter_le _ _) (Nat.le_trans (enB_len _ _ _) (wE_dec8 _ (by have := hL.1; omega) _ (by omega)))
  have hall : ∀ x, x ∈ (enB 3 L.1 o (2 * m) L.1 0 0).filter (vlB (hgB L) 3 L.1 o (2 * m)) → nuF 3 L.1 x o L.1 = some (2 * m) ∧ vlB (hgB L) 3 L.1 o (2 * m) x = true ∧ x < 2 ^ 31 := fun x hx => by
    obtain ⟨x1, x2⟩ := List.mem_filter.mp hx
    have := (enB_ok (b := 3) (n := L.1) (m := 2 * m) (by omega) L.1 0 0 0 x (by omega) (Nat.zero_le _) (by simp) rfl x1).1
    have e : ((2 : Nat) ^ 3) ^ L.1 = 8 ^ L.1 := rfl
    exact ⟨enB3_nu (by omega) x1, x2, by omega⟩
  generalize hls : (enB 3 L.1 o (2 * m) L.1 0 0).filter (vlB (hgB L) 3 L.1 o (2 * m)) = ls at hlen hall hq
  have key : ∀ xs i (B : Mem) (N : Nat) (acc : Option (Int × Nat)), i + xs.length ≤ 400000 → (∀ q, acc = some q → (-900 ≤ q.1 ∧ q.1 ≤ 900) ∧ q.2 < 2 ^ 31) → (∀ x, x ∈ xs → nuF 3 L.1 x o L.1 = some (2 * m) ∧ vlB (hgB L) 3 L.1 o (2 * m) x = true ∧ x < 2 ^ 31) → Frr (mnS m) (mnT m) M B → MX B la pr L P g ot → cuW B (43 + 6 * (m - 1)) (la + 7) (hgB L) 3 L.1 o (2 * m) N xs → xs.foldl (hvT L g (grB g dr) true o (2 * m)) acc = ls.foldl (hvT L g (grB g dr) true o (2 * m)) none → WA X d 0 0 m_X5_drawHalves 48 [some (vR 38), none, some (vI (nI m)), some (vI (nI dr)), some (vI (zI (daI g acc).1)), some (vI (daI g acc).2), some (vR (43 + 6 * (m - 1))), some (vI (nI i))] [] B Q := by
    intro xs
    induction xs with
    | nil =>
      intro i B N acc hi hacc hxs hF hX hW he
      have hi : i + 0 ≤ 400000 := hi
      have he : acc = _ := he
      refine b_X5_drawHalves_48 hX.1.1 (by omega) ⟨fun w => absurd (by rw [na_le (by decide) (by omega)] at w; omega) (id : False → False), fun _ => ⟨hW.2.1.1, kp_next (by omega) hW (fun hx C hFC hBC => ⟨_, rfl, hFC.ext, fun _ => ?_, fun w => absurd rfl w⟩) (fun y ys hy => by cases hy)⟩⟩
      have hFC2 := cu_ms (T := mnT m) ⟨hm.1, by omega⟩ hFC
      have hXC := hX.ms (by omega) hFC2
      refine b_X5_drawHalves_138 hXC.1.1 (fun M1 e1 => ?_)
      obtain ⟨s1, s2, s3⟩ := mn_self (m := m) hXC (by omega) e1
      have h9 := hq M1 ((hF.trans (ms_mn hFC2)).trans s1) s2 (by rw [s3, ← he, daI_ch])
      rw [← he] at h9
      rw [daI_v]; exact h9
    | cons x xs ih =>
      intro i B N acc hi hacc hxs hF hX hW he
      simp only [List.length_cons] at hi
      obtain ⟨x1, x2, x31⟩ := hxs x (by simp)
      refine b_X5_drawHalves_48 hX.1.1 (by omega) ⟨fun w => absurd (by rw [na_le (by decide) (by omega)] at w; omega) (id : False → False), fun _ => ⟨hW.2.1.1, kp_next (by omega) hW (fun hx => by cases hx) (fun y ys hy C hFC hWC hXC hpC => ⟨_, rfl, hFC.ext, fun w => absurd w (by decide), fun _ => ?_⟩)⟩⟩
      cases hy
      have hFC2 := cu_ms (T := mnT m) ⟨hm.1, by omega⟩ hFC
      have hMC := hX.ms (by omega) hFC2
      rw [hMC.1.2.1.1, hMC.1.2.2.1.2.1, d1]
      have hxs' : ∀ z, z ∈ xs → nuF 3 L.1 z o L.1 = some (2 * m) ∧ vlB (hgB L) 3 L.1 o (2 * m) z = true ∧ z < 2 ^ 31 := fun z hz => hxs z (by simp [hz])
      refine kp_joinOf (by omega) (by have := h.2.2.2.2.2.1; omega) hMC.2.1 hMC.2.2.2.1 (by omega) hg3 (by omega) x1 (by omega) hWC.2.1.1.k0 hpC (fun D hFD hJD => ⟨_, rfl, (ji_sl hFD).ext (slT_ok hMC.2.2.2.1), ?_⟩)
      have hFD2 := ji_ms (m := m) hFD
      have hMD := hMC.ms (by omega) hFD2
      have hF2 := (hF.trans (ms_mn hFC2)).trans (ms_mn hFD2)
      have hjT := jiT_ok hMC.2.2.2.1.2.2.o
      have hWD := hWC.rr hFD hjT (fun w => by unfold jiT at w; omega) (fun c k hc w => by have := h.2.2.2.2.2.1; unfold jiS at w; omega)
      have hXD := hXC.rr hFD (fun c k h1 h2 w => by unfold jiS at w; omega)
      rw [List.foldl_cons, hv_step hdr (by omega) x1 x2] at he
      rw [bI_0, nI_add]
      cases hj : joW L (sOB 3 L.1 x o) (pcut L x o) m (1 - dr) g with
      | none =>
        rw [hj] at he
        exact ⟨fun w => absurd rfl w, fun _ => ih (i + 1) D N acc (by omega) hacc hxs' hF2 hMD hWD he⟩
      | some b =>
        rw [hj] at he hJD
        dsimp only at he
        obtain ⟨j6, j7, j8, j9, j10⟩ := hJD
        have sbb := sgI_b (n := 900) g (x := b.2) (by omega)
        have take : ofT (grB g dr) acc x (sgI g b.2) = some (sgI g b.2, x) → WA X d 0 0 m_X5_drawHalves 115 [some (vR 38), none, some (vI (nI m)), some (vI (nI dr)), none, none, some (vR (43 + 6 * (m - 1))), some (vI (nI i))] [] D Q := fun ht => by
          rw [ht] at he
          refine b_X5_drawHalves_115 hMD.1.1 (by omega) (fun y1 ey => ⟨hWD.2.1.1, kp_number0 hWD.1 hWD.2.1 (by decide) (by omega) hXD ⟨_, rfl, Ext.refl _, ?_⟩⟩)
          rw [nI_add, ey, j7]
          have e7 : zI b.2 = zI (daI g (some (sgI g b.2, x))).1 := by
            show zI b.2 = zI (sgI g (sgI g b.2)); rw [sgI_sg]
          rw [e7]
          exact ih (i + 1) D N (some (sgI g b.2, x)) (by omega) (fun q hq2 => by cases hq2; exact ⟨sbb, x31⟩) hxs' hF2 hMD hWD he
        refine ⟨fun _ => ?_, fun w => by cases w⟩
        cases acc with
        | none => exact ⟨fun _ => take rfl, fun w => absurd rfl w⟩
        | some q =>
          have qb := sgI_b g (hacc q rfl).1
          refine ⟨fun w => absurd w (na_m1 (hacc q rfl).2), fun _ => ?_⟩
          rw [j7]
          show Cl X (d - 1) 0 0 m_X5_prefers [vI (nI dr), vI (zI b.2), vI (zI (sgI g q.1))] D _
          refine kp_prefers (by omega) (by omega) hdr ⟨_, rfl, Ext.refl _, ?_⟩
          rw [bI_0]
          have eb : b.2 = sgI g (sgI g b.2) := (sgI_sg g b.2).symm
          refine ⟨fun w => ?_, fun w => take (by rw [prB_ofT hdr, ← eb, if_pos (eq_true_of_ne_false w)])⟩
          rw [prB_ofT hdr, ← eb, if_neg (by rw [w]; decide)] at he
          exact ih (i + 1) D N (some q) (by omega) hacc hxs' hF2 hMD hWD he
  obtain ⟨c1, c2, c3⟩ := h.1.2.2.2.1 (m - 1) (by omega)
  refine e_X5_drawHalves (b_X5_drawHalves_0 h.1.1 (by omega) (kp_drawer h hm ⟨_, rfl, Ext.refl _, ?_⟩))
  rw [hdre, na_sub (a := m) (b := 1) hm.1, na_ix (by omega), show (38 : Nat) + 1 = 39 from rfl, c1, h.1.2.1.1, h.2.1.1.2.2.1.1, pk_mul]
  refine ⟨na_in (by omega) (by decide), h.2.1.1.1, c2, kp_cbegin (base := hgB L) (by omega) c2 hL.1.2 ho (by omega) (by have := h.2.2.2.2.2.1; omega) (la_k7 h.2.1) h.2.1.1.2.2.2.2.2.1 c3 (fun B N hFB hW => ⟨rfl, (cb_ms ⟨hm.1, by omega⟩ hFB).ext (mnT_ok h), ?_⟩)⟩
  have hFB2 := cb_ms ⟨hm.1, by omega⟩ hFB
  have hW3 := hW 3 (by decide) (by decide) (by omega)
  rw [hls] at hW3
  exact key ls 0 B N none (by omega) (fun q hq2 => by cases hq2) hall (ms_mn hFB2) (h.ms (by omega) hFB2) hW3 rfl
theorem kd_ph {v : Nat} (h : v ≤ 3) : ((kdP v : Nat) : Int) = 0 ∧ v = 0 ∨ ((kdP v : Nat) : Int) = 3 ∧ v = 1 ∨ ((kdP v : Nat) : Int) = 5 ∧ v = 2 ∨ ((kdP v : Nat) : Int) = 2 ∧ v = 3 := by
  rcases (show v = 0 ∨ v = 1 ∨ v = 2 ∨ v = 3 by omega) with rfl | rfl | rfl | rfl
  · exact Or.inl ⟨rfl, rfl⟩
  · exact Or.inr (Or.inl ⟨rfl, rfl⟩)
  · exact Or.inr (Or.inr (Or.inl ⟨rfl, rfl⟩))
  · exact Or.inr (Or.inr (Or.inr ⟨rfl, rfl⟩))
theorem ah_0 : AH X la pr L P g ot 0 := fun o d M Q ho hm hd h hq => by
  refine e_X5_ahead (b_X5_ahead_0 h.1.1 (by omega) ⟨fun _ => ?_, fun w => absurd (by decide) w⟩)
  have h9 := hq M Frr.refl h (fun w => absurd w (by decide))
  have e : zI (sgI g (cmF L P g ot 0 o)) = nI 0 := by
    rw [show cmF L P g ot 0 o = 0 by rw [cmF], sgI_0]; rfl
  rw [e] at h9; exact h9
theorem ah_all : ∀ m, AH X la pr L P g ot m
  | 0 => ah_0
  | m + 1 => fun o d M Q ho hm hd h hq => by
    have hA := ah_all m
    have hL := h.2.1.2.2
    have hs4 := hL.2.1
    have h512 := p9 hL.1.2
    have hcm := cmF_b9 (L := L) (P := P) (g := g) (ot := ot) (m := m + 1) (by omega) o
    have hsb := sgI_b g hcm
    have hpl : (nI (m + 1) - nI 1) * nI 512 + nI o = nI (512 * m + o) := by
      rw [na_sub (a := m + 1) (b := 1) (by omega), Nat.add_sub_cancel, pk_mul, nI_add, Nat.mul_comm]
    have hkk := (h.2.2.2.2.1.2.2 ((L.2.1 - (m + 1)) % P.1)).2
    obtain ⟨p1, p2⟩ := h.2.2.1.2 (L.2.1 - (m + 1)) (by omega)
    have hend : ∀ B, Frr (mnS (m + 1)) (mnT (m + 1)) M B → MX B la pr L P g ot → mI B 40 (512 * m + o) = zI (sgI g (cmF L P g ot (m + 1) o)) → mI B 41 (512 * m + o) = chI (rbF L P g ot (m + 1) o) → WA X d 0 0 m_X5_ahead 171 [some (vR 38), none, none, some (vI (nI (512 * m + o)))] [] B Q := fun B hF hX h25 h26 => by
      refine b_X5_ahead_171 hX.1.1 ⟨na_in (by omega) (by decide), fun M1 e1 => ⟨na_in (by omega) (by decide), ?_⟩⟩
      rw [na_ix (by omega), show (38 : Nat) + 3 = 41 from rfl, h26] at e1
      obtain ⟨s1, s2, s3⟩ := mn_self (m := m + 1) hX (by omega) e1
      rw [na_ix (by omega), show (38 : Nat) + 2 = 40 from rfl, e1, mI_sI_a (by decide), h25]
      have h9 := hq M1 (hF.trans s1) s2 (fun _ => s3)
      rw [e1] at h9; exact h9
    have hmem : ∀ B, Frr (mnS (m + 1)) (mnT (m + 1)) M B → MX B la pr L P g ot → mI B 38 9 = chI (rbF L P g ot (m + 1) o) → ∀ C, C = sI B 40 (512 * m + o) (zI (sgI g (cmF L P g ot (m + 1) o))) → WA X d 0 0 m_X5_ahead 161 [some (vR 38), none, none, some (vI (nI (512 * m + o)))] [] C Q := fun B hF hX hch C eC => by
      have hFC : Frr (mnS (m + 1)) (mnT (m + 1)) B C := by rw [eC]; exact (Fr.sI (S := mnS (m + 1)) (Or.inr (Or.inl rfl))).rr
      have hEC := mn_ext hX hFC
      refine b_X5_ahead_161 (hX.1.1.ext hEC) ⟨na_in (by omega) (by decide), fun D eD => ?_⟩
      rw [na_ix (by omega), show (38 : Nat) + 3 = 41 from rfl, eC, mI_sI_a (by decide), hch, ← eC] at eD
      have hFD : Frr (mnS (m + 1)) (mnT (m + 1)) B D := hFC.trans (by rw [eD]; exact (Fr.sI (S := mnS (m + 1)) (Or.inr (Or.inr (Or.inl rfl)))).rr)
      have hmm : mmX D L P g ot := fun k hk => by
        by_cases z : k = 512 * m + o
        · right
          refine ⟨m, o, z, by omega, ?_, ?_⟩
          · rw [eD, mI_sI_a (by decide), eC, z, mI_sI_eq]
          · rw [eD, z, mI_sI_eq]
        · have h1 : mI D 40 k = mI B 40 k := by rw [eD, mI_sI_a (by decide), eC, mI_sI_i z]
          have h2 : mI D 41 k = mI B 41 k := by rw [eD, mI_sI_i z, eC, mI_sI_a (by decide)]
          rw [h1, h2]
          exact hX.1.2.2.2.2 k hk
      have hXD := hX.mn (m := m + 1) (by omega) hFD hmm
      refine hend D (hF.trans hFD) hXD ?_ ?_
      · rw [eD, mI_sI_a (by decide), eC, mI_sI_eq]
      · rw [eD, mI_sI_eq]
    refine e_X5_ahead (b_X5_ahead_0 h.1.1 (by omega) ⟨fun w => absurd (by rw [na_lt (by omega) (by decide)] at w; omega) (id : False → False), fun _ => ?_⟩)
    rw [h.1.2.1.1, h.1.2.1.2, h.2.1.1.2.2.1.2.1]
    refine ⟨h.2.1.1.1, fun w => absurd (by rw [na_lt (by omega) (by omega)] at w; omega) (id : False → False), fun _ => ⟨fun w => absurd (by rw [na_lt (by omega) (by decide)] at w; omega) (id : False → False), fun _ => ⟨fun _ y1 e1 => ?_, fun w => absurd (by rw [na_lt (by omega) (by decide)]; omega) w⟩⟩⟩
    rw [hpl] at e1
    rw [e1]
    rw [na_ix (by omega), show (38 : Nat) + 2 = 40 from rfl]
    refine ⟨na_in (by omega) (by decide), fun w => ?_, fun w => ?_⟩
    · rcases h.1.2.2.2.2 (512 * m + o) (by omega) with z | ⟨m', o', z1, z2, z3, z4⟩
      · exact absurd z w
      · have em : m' = m := by omega
        have eo : o' = o := by omega
        subst em
        subst eo
        exact hend M Frr.refl h z3 z4
    · rw [na_sub hm]
      refine ⟨h.2.2.1.1, na_in (by omega) (by decide), fun y2 e2 => ?_⟩
      rw [na_ix (by omega), p1] at e2
      have ei : y2.toInt = (kdP (P.2.2 ((L.2.1 - (m + 1)) % P.1)) : Nat) := by
        rw [e2]; refine toI_n ?_
        have := kd_ph hkk
        omega
      refine ⟨fun q => ?_, fun q => ?_, fun q => ?_, fun q1 q2 q3 => ?_⟩
      · refine kp_drawKeep (m := m + 1) hA (by omega) h ⟨by omega, hm⟩ ho (by have := kd_ph hkk; omega) (fun B hF hX hch => ⟨_, rfl, mn_ext h hF, na_in (by omega) (by decide), fun C eC => ?_⟩)
        exact hmem B hF hX hch C eC
      · refine kp_drawHalves (m := m + 1) (by omega) h ⟨by omega, hm⟩ ho (by have := kd_ph hkk; omega) (fun B hF hX hch => ⟨_, rfl, mn_ext h hF, na_in (by omega) (by decide), fun C eC => ?_⟩)
        exact hmem B hF hX hch C eC
      · refine kp_drawFirst (m := m + 1) (by omega) h ⟨by omega, hm⟩ ho (by have := kd_ph hkk; omega) (fun B hF hX hch => ⟨_, rfl, mn_ext h hF, na_in (by omega) (by decide), fun C eC => ?_⟩)
        exact hmem B hF hX hch C eC
      · refine kp_drawAll (m := m + 1) (by omega) h ⟨by omega, hm⟩ ho (by have := kd_ph hkk; omega) (fun B hF hX hch => ⟨_, rfl, mn_ext h hF, na_in (by omega) (by decide), fun C eC => ?_⟩)
        exact hmem B hF hX hch C eC
end ROUNDS
