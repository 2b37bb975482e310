/-! HOW THE CLASS FINDS CUTS: the next one -/
def kC (m r u e : Nat) : Nat := (u - e) * (1 + itC m r u) + (if e ≤ u ∧ u < m then 1 + itC m r (u + 1) else 0) + 1
theorem kC_s {m r u e : Nat} (h : e < min (u + 1) m) : kC m r u e = 1 + itC m r (max u (e + 1)) + kC m r u (e + 1) := by
  have h1 := Nat.lt_min.mp h
  unfold kC
  by_cases hq : e < u
  · rw [show u - e = (u - (e + 1)) + 1 by omega, Nat.succ_mul, Nat.max_eq_left (by omega)]
    by_cases hm : u < m
    · rw [if_pos ⟨by omega, hm⟩, if_pos ⟨by omega, hm⟩]; omega
    · rw [if_neg (fun z => hm z.2), if_neg (fun z => hm z.2)]; omega
  · obtain rfl : e = u := by omega
    rw [if_pos ⟨Nat.le_refl _, h1.2⟩, if_neg (fun z => by omega), Nat.sub_self, show e - (e + 1) = 0 by omega, Nat.max_eq_right (by omega)]
    omega
theorem kC_0 (m r u : Nat) : kC m r u 0 = itC m (r + 1) u := by
  unfold kC
  show _ = 1 + u * (1 + itC m r u) + (if u < m then 1 + itC m r (u + 1) else 0)
  by_cases hm : u < m
  · rw [if_pos ⟨by omega, hm⟩, if_pos hm, Nat.sub_zero]; omega
  · rw [if_neg (fun z => hm z.2), if_neg hm, Nat.sub_zero]; omega
def upC (n o m N : Nat) (dp : Nat → Nat) : Nat → Nat
  | 0 => 0
  | i + 1 => kC m (N - (i + 1)) (uP o dp (plF n o i)) (dp (plF n o i) + 1) + upC n o m N dp i
theorem plF_mono {n o N i j : Nat} (hN : ∀ j, j < N → plF n o j < n) (hij : i < j) (hj : j ≤ N) : plF n o i < plF n o j := by
  induction j with
  | zero => omega
  | succ j ih =>
    have := plF_lt (hN j (by omega))
    by_cases hq : i = j
    · rw [hq]; exact this
    · have := ih (by omega) (by omega); omega
theorem upC_cg {n o m N : Nat} {dp dp' : Nat → Nat} : ∀ {i : Nat}, (∀ x, (∃ j, j < i ∧ x ≤ plF n o j) → dp x = dp' x) → upC n o m N dp i = upC n o m N dp' i
  | 0, _ => rfl
  | i + 1, h => by
    unfold upC
    rw [uP_cg (dp := dp) (dp' := dp') (fun x hx => h x ⟨i, by omega, by omega⟩), h (plF n o i) ⟨i, by omega, Nat.le_refl _⟩, upC_cg (fun x ⟨j, h1, h2⟩ => h x ⟨j, by omega, h2⟩)]
theorem uP_le {o m : Nat} {dp : Nat → Nat} (h : ∀ p, dp p < m) : ∀ q, uP o dp q ≤ m
  | 0 => Nat.zero_le _
  | q + 1 => by
    unfold uP
    split
    · exact Nat.max_le.mpr ⟨uP_le h q, h q⟩
    · exact uP_le h q
theorem dpU_self {dp : Nat → Nat} {p : Nat} : dpU dp p (dp p) = dp := by
  funext x
  unfold dpU
  split
  · rename_i h; rw [h]
  · rfl
section NEXT
variable {X : Cx} {d a h : Nat} {base : Nat → Bool} {b n o m N : Nat} {Q : Option AV → Mem → Prop}
theorem wa_next {M0 : Mem} (hd : 1 ≤ d) (hK : cuK a h n o m N) (hm : m ≤ 2 ^ b) :
    ∀ (K i e : Nat) (dp : Nat → Nat) (M : Mem) (t : Nat), Fr (cuS a) M0 M → cuB M a h base n o m N → i < N → cuT M a n o i e dp → e ≤ m → (∀ p, dp p < m) → kC m (N - (i + 1)) (uP o dp (plF n o i)) e + upC n o m N dp i ≤ K → t + K < 1000000 →
    (kdF base b n o m dp (plF n o i) e ++ upF base b n o m dp i = [] → ∀ B, Fr (cuS a) M0 B → cuB B a h base n o m N → Q (some (vI (nI 0))) B) →
    (∀ x xs, kdF base b n o m dp (plF n o i) e ++ upF base b n o m dp i = x :: xs → ∀ B dp', Fr (cuS a) M0 B → cuB B a h base n o m N → cuT B a n o N 0 dp' → (∀ p, dp' p < m) → cP b o dp' n = x → upF base b n o m dp' N = xs → upC n o m N dp' N ≤ K → uP o dp' n = m → (∀ k, k < m → sOB b n x o k = pts o dp' n k) → Q (some (vI (nI 1))) B) →
    WA X d 0 0 m_X0_next 23 [some (vR a), some (vI (nI t))] [] M Q := by
  intro K
  induction K with
  | zero => intro i e dp M t _ _ _ _ _ _ hc; unfold kC at hc; omega
  | succ K ih =>
    intro i e dp M t hF hB hi hT he hdp hc ht h0 h1
    have hp := hK.2.2.2.1.1 i hi
    have ho := plF_op hp
    have hu := uP_le (o := o) hdp (plF n o i)
    have hm8 := hK.2.1.2
    have hN9 := hK.2.2.1
    refine b_X0_next_23 hB.1 hd ⟨fun q => absurd (by rw [na_le (by omega) (by omega)] at q; omega) (id : False → False), fun _ => ⟨fun q => absurd (by rw [hT.1, na_lt (by omega) (by decide)] at q; omega) (id : False → False), fun _ => ⟨fun q => absurd q (by rw [hB.2.2.1.2.1, hT.1]; exact gd_hi hi (by omega)), fun _ => ?_⟩⟩⟩
    refine kp_shift hK hB hT hi hu he (fun hno B hFB g8 g3 g4 g1 => ⟨_, rfl, hFB.ext, fun q => absurd rfl q, fun _ M5 e5 => ?_⟩) (fun hlt B hFB hTB hub => ⟨_, rfl, hFB.ext, fun _ => ?_, fun q => absurd q (by decide)⟩)
    · -- nothing more at this place
      have hBB := hB.fr hK.2.2.2.2.2 hFB
      rw [g8] at e5
      have hk0 : kdF base b n o m dp (plF n o i) e = [] := kdF_end (by omega)
      rw [hk0, List.nil_append] at h0 h1
      have hF5 : Fr (cuS a) B M5 := by rw [e5]; exact Fr.sI (Or.inl ⟨rfl, rfl⟩)
      have hB5 := hBB.fr hK.2.2.2.2.2 hF5
      cases i with
      | zero =>
        have e8 : mI M5 a 8 = (-1) := by rw [e5, mI_sI_eq]; decide
        rw [nI_add]
        refine b_X0_next_23 hB5.1 hd ⟨fun _ => h0 rfl M5 ((hF.trans hFB).trans hF5) hB5, fun _ => ⟨fun _ => h0 rfl M5 ((hF.trans hFB).trans hF5) hB5, fun q => absurd (by rw [e8]; decide) q⟩⟩
      | succ i =>
        have hpi := hK.2.2.2.1.1 i (by omega)
        have hoi := plF_op hpi
        rw [na_sub (by omega), Nat.add_sub_cancel] at e5
        rw [nI_add]
        unfold upC at hc
        have hk1 : 1 ≤ kC m (N - (i + 1 + 1)) (uP o dp (plF n o (i + 1))) e := by unfold kC; omega
        refine ih i (dp (plF n o i) + 1) dp M5 (t + 1) ((hF.trans hFB).trans hF5) hB5 (by omega) ⟨?_, fun j hj => ?_, ?_, fun j hj => ?_, fun s hs => ?_⟩ (hdp _) hdp (by omega) (by omega) h0 (fun x xs hx B2 dp' c1 c2 c3 c4 c5 c6 c7 => h1 x xs hx B2 dp' c1 c2 c3 c4 c5 c6 (by omega))
        · rw [e5, mI_sI_eq]
        · rw [e5, mI_sI_a (by omega)]; exact g3 j (by omega)
        · rw [e5, mI_sI_a (by omega), oD_s]; exact g3 i (by omega)
        · rw [e5, mI_sI_a (by omega)]; exact g4 j (by omega)
        · rw [e5, mI_sI_a (by omega), if_neg (by omega), Nat.add_sub_cancel, dpU_self]
          rw [← (enS_nx (b := b) (m := m) (dp := dp) (o := o) (q := plF n o i + 1) (show plF n o i + 1 ≤ n by omega)).2.2 s]
          exact g1 s hs
    · -- one more
      have hBB := hB.fr hK.2.2.2.2.2 hFB
      have hlm := Nat.lt_min.mp hlt
      have hdp' : ∀ p, dpU dp (plF n o i) e p < m := fun p => by
        unfold dpU; split
        · exact hlm.2
        · exact hdp p
      have hd2 : ∀ p, o.testBit p = true → dpU dp (plF n o i) e p < 2 ^ b := fun p _ => Nat.lt_of_lt_of_le (hdp' p) hm
      have hnx := enS_nx (b := b) (m := m) (dp := dpU dp (plF n o i) e) (o := o) (q := plF n o i + 1) (n := n) (by omega)
      have hu2 := uP_le (o := o) hdp' (plF n o (i + 1))
      have euP : uP o (dpU dp (plF n o i) e) (plF n o (i + 1)) = max (uP o dp (plF n o i)) (e + 1) := hnx.2.1.trans (uP_U ho)
      have hkn := kdF_next (base := base) (b := b) (m := m) hp ho hlt
      rw [uP_U ho] at hub
      rw [← euP] at hub
      have hparts : ∀ s, s < 8 → mI B (a + 1) s = nI (pts o (dpU dp (plF n o i) e) (plF n o (i + 1)) s) := fun s hs => by
        have := hTB.2.2.2.2 s hs
        rw [if_neg (by omega), Nat.add_sub_cancel] at this
        rw [this]
        exact congrArg nI (hnx.2.2 s).symm
      have hcost := kC_s (r := N - (i + 1)) hlt
      refine kp_isHopeful (u := uP o (dpU dp (plF n o i) e) (plF n o (i + 1))) hK hBB hi hTB.1 hub hu2 hparts (fun s => pts_lt) (fun hno => ⟨_, rfl, Ext.refl _, fun _ => ?_, fun q => absurd rfl q⟩) (fun hl hall => ⟨_, rfl, Ext.refl _, fun q => absurd q (by decide), fun _ M3 e3 => ?_⟩)
      · -- no hope
        have hnil : (enS b n o m (dpU dp (plF n o i) e) (plF n o (i + 1))).filter (vlB base b n o m) = [] := by
          rcases hno with z | ⟨k, z1, z2⟩
          · unfold enS
            rw [no_left (base := base) hK.2.2.2.1 (N - (i + 1)) (i + 1) (by omega) _ _ z]; rfl
          · exact no_part hm (plF_le _) hd2 hu2 (by omega) z2
        have hkn2 : kdF base b n o m dp (plF n o i) e = kdF base b n o m dp (plF n o i) (e + 1) := by
          rw [hkn, show nxP n o (plF n o i + 1) = plF n o (i + 1) from rfl, hnil, List.nil_append]
        rw [hkn2] at h0 h1
        rw [nI_add]
        refine ih i (e + 1) dp B (t + 1) (hF.trans hFB) hBB hi hTB (by omega) hdp (by omega) (by omega) h0 (fun x xs hx B2 dp' c1 c2 c3 c4 c5 c6 c7 => h1 x xs hx B2 dp' c1 c2 c3 c4 c5 c6 (by omega))
      · rw [hTB.1, nI_add] at e3
        have hF3 : Fr (cuS a) B M3 := by rw [e3]; exact Fr.sI (Or.inl ⟨rfl, rfl⟩)
        have x8 : mI M3 a 8 = nI (i + 1) := by rw [e3, mI_sI_eq]
        rw [x8]
        refine ⟨na_in (by omega) (by omega), fun M4 e4 => ?_⟩
        rw [na_ix (by omega)] at e4
        have hF4 : Fr (cuS a) M3 M4 := by rw [e4]; exact Fr.sI (Or.inr (Or.inr (Or.inl rfl)))
        have hB4 := (hBB.fr hK.2.2.2.2.2 hF3).fr hK.2.2.2.2.2 hF4
        have y8 : mI M4 a 8 = nI (i + 1) := by rw [e4, mI_sI_a (by omega)]; exact x8
        rw [y8, hB4.2.2.1.2.1, na_eq (by omega) (by omega)]
        have lowj : ∀ j, j < i → plF n o j < plF n o i := fun j hj => plF_mono hK.2.2.2.1.1 hj (by omega)
        have hT4 : cuT M4 a n o (i + 1) 0 (dpU dp (plF n o i) e) := by
          refine ⟨y8, fun j hj => ?_, ?_, fun j hj => ?_, fun s hs => ?_⟩
          · rw [e4, mI_sI_i (by omega), e3, mI_sI_a (by omega)]
            by_cases hq : j = i
            · subst hq
              rw [hTB.2.2.1, oD_s]
              unfold dpU; rw [if_pos rfl]
            · rw [hTB.2.1 j (by omega), dpU_lt (dp := dp) (s := e) _ (lowj j (by omega))]
          · rw [e4, mI_sI_eq]; rfl
          · rw [e4, mI_sI_a (by omega), e3, mI_sI_a (by omega)]
            by_cases hq : j = i + 1
            · subst hq; exact hub
            · rw [hTB.2.2.2.1 j (by omega)]
              congr 1
              refine uP_cg (fun x hx => dpU_lt x ?_)
              by_cases hji : j = i
              · subst hji; exact hx
              · have := lowj j (by omega); omega
          · rw [e4, mI_sI_a (by omega), e3, mI_sI_a (by omega), if_pos rfl]; exact hparts s hs
        have hFF := ((hF.trans hFB).trans hF3).trans hF4
        have hup : upF base b n o m dp i = upF base b n o m (dpU dp (plF n o i) e) i := upF_cg (fun j hj => hK.2.2.2.1.1 j (by omega)) (fun x ⟨j, h1, h2⟩ => dpU_lt x (by have := lowj j h1; omega))
        have hupc : upC n o m N dp i = upC n o m N (dpU dp (plF n o i) e) i := upC_cg (fun x ⟨j, h1, h2⟩ => dpU_lt x (by have := lowj j h1; omega))
        have hself : dpU dp (plF n o i) e (plF n o i) = e := by unfold dpU; rw [if_pos rfl]
        have hups : upF base b n o m (dpU dp (plF n o i) e) (i + 1) = kdF base b n o m dp (plF n o i) (e + 1) ++ upF base b n o m dp i := by
          show kdF base b n o m (dpU dp (plF n o i) e) (plF n o i) (dpU dp (plF n o i) e (plF n o i) + 1) ++ upF base b n o m (dpU dp (plF n o i) e) i = _
          rw [hself, ← hup, ← kdF_cg (dp := dp) (dpU_lt)]
        have hupcs : upC n o m N (dpU dp (plF n o i) e) (i + 1) = kC m (N - (i + 1)) (uP o dp (plF n o i)) (e + 1) + upC n o m N dp i := by
          show kC m (N - (i + 1)) (uP o (dpU dp (plF n o i) e) (plF n o i)) (dpU dp (plF n o i) e (plF n o i) + 1) + upC n o m N (dpU dp (plF n o i) e) i = _
          rw [hself, ← hupc, ← uP_cg (dp := dp) (dpU_lt)]
        rw [show nxP n o (plF n o i + 1) = plF n o (i + 1) from rfl] at hkn
        refine ⟨fun q => ?_, fun q => ?_⟩
        · -- on to the next place
          have hp1 := hK.2.2.2.1.1 (i + 1) (by omega)
          have ho1 := plF_op hp1
          rw [enS_open hp1 ho1] at hkn
          have hlist : kdF base b n o m dp (plF n o i) e ++ upF base b n o m dp i = kdF base b n o m (dpU dp (plF n o i) e) (plF n o (i + 1)) 0 ++ upF base b n o m (dpU dp (plF n o i) e) (i + 1) := by rw [hkn, hups, List.append_assoc]
          rw [hlist] at h0 h1
          rw [nI_add]
          have hc0 : kC m (N - (i + 1 + 1)) (uP o (dpU dp (plF n o i) e) (plF n o (i + 1))) 0 = itC m (N - (i + 1)) (max (uP o dp (plF n o i)) (e + 1)) := by
            rw [kC_0, euP]; congr 1; omega
          refine ih (i + 1) 0 _ M4 (t + 1) hFF hB4 (by omega) hT4 (by omega) hdp' (by rw [hc0, hupcs]; omega) (by omega) h0 (fun x xs hx B2 dp' c1 c2 c3 c4 c5 c6 c7 => h1 x xs hx B2 dp' c1 c2 c3 c4 c5 c6 (by omega))
        · -- found
          subst q
          have hPN := hK.2.2.2.1.2
          rw [hPN] at hkn euP hu2 hl hall
          have hum : uP o (dpU dp (plF n o i) e) n = m := by omega
          obtain ⟨w1, w2⟩ := yes_end (base := base) (m := m) hd2 hum (fun k hk => by
            have := hall k (by omega)
            rw [Nat.sub_self] at this
            exact this)
          rw [w1] at hkn
          refine h1 (cP b o (dpU dp (plF n o i) e) n) (upF base b n o m (dpU dp (plF n o i) e) (i + 1)) (by rw [hkn, hups]; rfl) M4 _ hFF hB4 hT4 hdp' rfl rfl (by rw [hupcs]; omega) hum (fun k _ => w2 k)
end NEXT
