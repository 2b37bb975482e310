/-! THE CLASS: the nearest cut that is settled -/
def neS (a b2 b k : Nat) : Prop := coS a b k ∨ b = b2
def nbI (L : LandT) (q : Option (Nat × Int)) : Int32 × Int32 := match q with
  | none => (-1, nI (L.1 + 1))
  | some b => (nI b.1, zI b.2)
def nrI (q : Option (Nat × Int)) : Int32 := match q with
  | none => -1
  | some b => nI b.1
theorem nbI_1 (L : LandT) (q : Option (Nat × Int)) : (nbI L q).1 = nrI q := by cases q <;> rfl
section NEAR
variable {X : Cx} {d a : Nat} {L : LandT} {M : Mem} {Q : Option AV → Mem → Prop}
theorem laR.ne {b2 : Nat} {B : Mem} (h : laR M a L) (hF : Fr (neS a b2) M B) (hb : b2 < a) : laR B a L := by
  have n : ∀ b k, a ≤ b → b ≠ a + 1 ∨ k = 0 → ¬ neS a b2 b k := fun b k h1 h2 q => by unfold neS coS at q; omega
  exact ⟨h.1.fr hF (fun k hk => n _ _ (by omega) (by omega)) (fun k => ⟨n _ _ (by omega) (by omega), n _ _ (by omega) (by omega), n _ _ (by omega) (by omega), n _ _ (by omega) (by omega)⟩) (n _ _ (by omega) (by omega)), h.2.1.fr hF (fun k => ⟨n _ _ (by omega) (by omega), n _ _ (by omega) (by omega), n _ _ (by omega) (by omega)⟩), h.2.2⟩
theorem kp_setB {b2 e : Nat} (hd : 2 ≤ d) (hR : laR M a L) (hl : icN L e (whL L) L.2.1) (he : e < 4 ^ L.1) (hb : isK M b2 14 8) (hf : ∀ s, s < L.2.1 → mI M b2 s = nI (seL L e s)) (h : Q (some (vI (bI (seB L e)))) M) : Cl X d 0 0 m_X3_isSettled [vR a, vR b2] M Q := by
  have hi := seB_iff hR.2.2 hl he
  refine kp_settled (f := fun s => seL L e s) hd hR hb (fun s hs => ⟨sOB_lt _ _ _ _ _, hf s hs⟩) (fun hall => ?_) (fun i j p h1 h2 h3 h4 h5 => ?_)
  · rw [hi.mpr hall] at h; exact h
  · have : seB L e = false := by
      cases hz : seB L e with
      | false => rfl
      | true =>
        have := hi.mp hz i j h1 h2 h3 p h4
        rw [this] at h5; cases h5
    rw [this] at h; exact h
theorem kp_nearest {b1 b2 rc rw K c : Nat} {W : Nat → Nat → Nat} {ls : List Nat} (hd : 3 ≤ d) (hR : laR M a L) (hz : mI M (a + 1) 0 = nI 0) (h1 : isK M b1 14 8) (h2 : isK M b2 14 8) (hb1 : b1 < a) (hb2 : b2 < a) (hbb : b1 ≠ b2) (hc : c < 4 ^ L.1) (hcn : nuF 2 L.1 c (whL L) L.1 = some L.2.1) (hf : ∀ s, s < L.2.1 → mI M b1 s = nI (seL L c s)) (hRo : roK M (a + 9) rc rw K W ls) (hrc : a + 9 < rc ∧ a + 9 < rw) (hls : ∀ x, x ∈ ls → x < 4 ^ L.1 ∧ icN L x (whL L) L.2.1) (hno : c ∈ ls → seB L c = false)
    (h : ∀ B, Fr (neS a b2) M B → Q (some (vI (nrI (nrF L c ls none)))) B) : Cl X d 0 0 m_X3_nearestSettled [vR a, vR (a + 9), vR b1, vR b2] M Q := by
  have hO := hR.2.2
  have hn := hO.1
  have hs4 := hO.2.1
  have h49 : 4 ^ L.1 ≤ 4 ^ 9 := Nat.pow_le_pow_right (by decide) hO.1.2
  have h49e : (4 : Nat) ^ 9 = 262144 := rfl
  have h512 := p9 hO.1.2
  have hKl : ls.length < 65536 := Nat.lt_of_le_of_lt hRo.2.2.1.2.2.2 hRo.2.2.1.1
  have dpos : ∀ x, x ∈ ls → seB L x = true → 1 ≤ dsL L c x := fun x hx hsx => by
    obtain ⟨q1, q2⟩ := hls x hx
    obtain ⟨q3, q4⟩ := ds_0 hO hc q1 hcn q2.1
    rcases (show dsL L c x ≤ 0 ∨ 1 ≤ dsL L c x by omega) with w | w
    · have := q4 w
      subst this
      rw [hno hx] at hsx; cases hsx
    · exact w
  have key : ∀ xs i (b : Option (Nat × Int)) (B : Mem), ls.drop i = xs → i ≤ ls.length → Fr (neS a b2) M B → (∀ q, b = some q → 1 ≤ q.2 ∧ q.2 ≤ 9 ∧ q.1 < 4 ^ L.1) → nrF L c xs b = nrF L c ls none → WA X d 0 0 m_X3_nearestSettled 14 [some (vR a), some (vR (a + 9)), some (vR b1), some (vR b2), some (vI (nbI L b).1), some (vI (nbI L b).2), some (vI (nI i)), none] [] B Q := by
    intro xs
    induction xs with
    | nil =>
      intro i b B hdr hi hF hb he
      have hRB := hR.ne hF hb2
      have hRoB : roK B (a + 9) rc rw K W ls := hRo.fr hF (fun q => by unfold neS coS at q; omega) (fun k q => by unfold neS coS at q; omega) (fun k q => by unfold neS coS at q; omega)
      have hil : ls.length ≤ i := by
        have := congrArg List.length hdr
        rw [List.length_drop] at this
        have this : ls.length - i = 0 := this
        omega
      have he : b = nrF L c ls none := he
      refine b_X3_nearestSettled_14 hRB.1.1 (by omega) ⟨hRoB.1, fun _ => ?_, fun q => absurd (by rw [hRoB.2.2.2.1, na_le (by omega) (by omega)]; exact hil) q⟩
      rw [nbI_1, he]; exact h B hF
    | cons x xs ih =>
      intro i b B hdr hi hF hb he
      have hRB := hR.ne hF hb2
      have hRoB : roK B (a + 9) rc rw K W ls := hRo.fr hF (fun q => by unfold neS coS at q; omega) (fun k q => by unfold neS coS at q; omega) (fun k q => by unfold neS coS at q; omega)
      have hlen : i < ls.length := by
        have := congrArg List.length hdr
        rw [List.length_drop, List.length_cons] at this
        omega
      have hgx : ls[i]? = some x := by
        have := congrArg (fun l => l[0]?) hdr
        simp only [List.getElem?_drop, Nat.add_zero, List.getElem?_cons_zero] at this
        exact this
      have hdr2 : ls.drop (i + 1) = xs := by
        rw [← List.drop_drop, hdr]; rfl
      have hsub : ∀ o, o ∈ x :: xs → o ∈ ls := fun o ho => by rw [← hdr] at ho; exact List.mem_of_mem_drop ho
      obtain ⟨x1, x2⟩ := hls x (hsub x (by simp))
      obtain ⟨g1, ⟨g2, g3⟩, ⟨g4, g5, g6, g7⟩, g8, g9, g10⟩ := hRoB
      have k0 := hRB.1.2.2.1.1
      have k1 := hRB.1.2.2.1.2.1
      have k4 : mI B a 4 = nI (whL L) := hRB.1.2.2.1.2.2.2.2
      have hwl := whL_lt L
      refine b_X3_nearestSettled_14 hRB.1.1 (by omega) ⟨g1, fun q => absurd (by rw [g8, na_le (by omega) (by omega)] at q; omega) (id : False → False), fun _ => ⟨fun q => ?_, fun q => ?_⟩⟩
      · -- no nearer one can come
        have hstop : nrF L c (x :: xs) b = b := by
          cases b with
          | none =>
            have q : nI (L.1 + 1) ≤ nI 1 := q
            rw [na_le (by omega) (by decide)] at q; omega
          | some q1 =>
            have q : zI q1.2 ≤ nI 1 := q
            obtain ⟨b1, b2, b3⟩ := hb q1 rfl
            have q : zI q1.2 ≤ zI 1 := q
            rw [zI_le (by omega) (by omega) (by omega) (by omega)] at q
            exact nr_stop _ (fun o ho hs => by have := dpos o (hsub o ho) hs; omega)
        rw [hstop] at he
        rw [nbI_1, he]; exact h B hF
      · rw [g2, k4, k1]
        refine ⟨K, g5, na_in (by omega) (by omega), ?_⟩
        have gx := g9 i x hgx
        rw [Nat.zero_add] at gx
        rw [na_ix (by omega), gx]
        have hin : inN (nI x) (2 ^ (2 * L.1)) = some x := by rw [← p4e]; exact inN_nI (by omega) x1
        refine kp_split hRB.1.1 k0 hO.1.2 (by decide) (by omega) (by omega) (hF.ext.1 _ _ _ h2) (by omega) (fun hk => absurd x2.1 (hk x hin)) (fun k hk hu B1 hF1 hB1 => ⟨_, rfl, hF1.ext, ?_⟩)
        rw [hin] at hk
        cases hk
        have hF1n : Fr (neS a b2) B B1 := hF1.mono (fun b k q => Or.inr q)
        have hR1 := hRB.ne hF1n hb2
        have hFM1 := hF.trans hF1n
        have m1 : ∀ s, s < L.2.1 → mI B1 b1 s = nI (seL L c s) := fun s hs => by rw [hFM1.at (fun q => by unfold neS coS at q; omega)]; exact hf s hs
        have z1 : mI B1 (a + 1) 0 = nI 0 := by rw [hFM1.at (fun q => by unfold neS coS at q; omega)]; exact hz
        refine kp_distance (c := c) (e := x) (by omega) hR1 z1 (hFM1.ext.1 _ _ _ h1) (hFM1.ext.1 _ _ _ h2) (Or.inl hb1) (Or.inl hb2) m1 hB1 (fun B2 hF2 => ⟨_, rfl, hF2.ext, ?_⟩)
        have hF2n : Fr (neS a b2) B1 B2 := hF2.mono (fun b k q => Or.inl q)
        have hR2 := hR1.ne hF2n hb2
        have hFM2 := hFM1.trans hF2n
        have dle := ds_le (c := c) (e := x) hO
        obtain ⟨d0, d1⟩ := ds_0 hO hc x1 hcn x2.1
        have ecmp : (nbI L b).2 ≤ zI (dsL L c x) ↔ ∃ q1, b = some q1 ∧ q1.2 ≤ dsL L c x := by
          cases b with
          | none =>
            show nI (L.1 + 1) ≤ zI (dsL L c x) ↔ _
            rw [← zI_n, zI_le (by omega) (by omega) (by omega) (by omega)]
            exact ⟨fun q => by omega, fun ⟨_, q, _⟩ => by cases q⟩
          | some q1 =>
            obtain ⟨b1, b2, b3⟩ := hb q1 rfl
            show zI q1.2 ≤ zI (dsL L c x) ↔ _
            rw [zI_le (by omega) (by omega) (by omega) (by omega)]
            exact ⟨fun q => ⟨q1, rfl, q⟩, fun ⟨_, q, q2⟩ => by cases q; exact q2⟩
        rw [ecmp]
        refine ⟨fun q2 => ?_, fun q2 => ?_⟩
        · obtain ⟨q1, rfl, q3⟩ := q2
          rw [nI_add]
          refine ih (i + 1) (some q1) B2 hdr2 (by omega) hFM2 hb ?_
          have e2 : nrF L c (x :: xs) (some q1) = nrF L c xs (some q1) := by
            show (if dsL L c x < q1.2 ∧ seB L x = true then _ else nrF L c xs (some q1)) = _
            rw [if_neg (fun w => by have := w.1; omega)]
          rw [← e2]; exact he
        · have hB2 : ∀ s, s < L.2.1 → mI B2 b2 s = nI (seL L x s) := fun s hs => by rw [hF2.at (fun q => by unfold coS at q; omega)]; exact hB1 s hs
          refine kp_setB (by omega) hR2 x2 x1 (hFM2.ext.1 _ _ _ h2) hB2 ⟨_, rfl, Ext.refl _, ?_⟩
          rw [bI_0]
          refine ⟨fun q3 => ?_, fun q3 => ?_⟩
          · rw [nI_add]
            refine ih (i + 1) b B2 hdr2 (by omega) hFM2 hb ?_
            have e2 : nrF L c (x :: xs) b = nrF L c xs b := by
              cases b with
              | none =>
                show (if seB L x = true then _ else nrF L c xs none) = _
                rw [if_neg (by rw [q3]; decide)]
              | some q1 =>
                show (if dsL L c x < q1.2 ∧ seB L x = true then _ else nrF L c xs (some q1)) = _
                rw [if_neg (fun w => by rw [q3] at w; exact absurd w.2 (by decide))]
            rw [← e2]; exact he
          · have q3 : seB L x = true := by simpa using q3
            have hRo2 : roK B2 (a + 9) rc rw K W ls := hRo.fr hFM2 (fun q => by unfold neS coS at q; omega) (fun k q => by unfold neS coS at q; omega) (fun k q => by unfold neS coS at q; omega)
            obtain ⟨w1, ⟨w2, w3⟩, ⟨w4, w5, w6, w7⟩, w8, w9, w10⟩ := hRo2
            rw [w2]
            refine ⟨K, w5, na_in (by omega) (by omega), fun x4 e4 => ?_⟩
            have wx := w9 i x hgx
            rw [Nat.zero_add] at wx
            rw [wx] at e4
            rw [e4, nI_add]
            have dp := dpos x (hsub x (by simp)) q3
            refine ih (i + 1) (some (x, dsL L c x)) B2 hdr2 (by omega) hFM2 (fun q hq => by cases hq; exact ⟨dp, by omega, x1⟩) ?_
            have e2 : nrF L c (x :: xs) b = nrF L c xs (some (x, dsL L c x)) := by
              cases b with
              | none =>
                show (if seB L x = true then _ else nrF L c xs none) = _
                rw [if_pos q3]
              | some q1 =>
                show (if dsL L c x < q1.2 ∧ seB L x = true then _ else nrF L c xs (some q1)) = _
                rw [if_pos ⟨Classical.byContradiction (fun w => q2 ⟨q1, rfl, by omega⟩), q3⟩]
            rw [← e2]; exact he
  refine e_X3_nearestSettled (b_X3_nearestSettled_0 hR.1.1 (fun x1 e1 => ?_))
  rw [hR.1.2.2.1.1, nI_add] at e1
  rw [e1]
  exact key ls 0 none M rfl (Nat.zero_le _) Fr.refl (fun q hq => by cases hq) rfl
end NEAR
