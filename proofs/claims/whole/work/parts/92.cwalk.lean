/-! THE CLASS: walks -/
/-- the cut after one step -/
def nxC (L : LandT) (c p t : Nat) : Nat := if jdL L (mvL L c p t) = 0 then mvL L c p t else c
theorem wkF_S (L : LandT) (k : Nat) (x : Int64) (c : Nat) : wkF L (k + 1) x c = wkF L k (wkX x) (nxC L c (wkY x % L.1) (wkY x / L.1 % L.2.1)) := by
  rw [wkF]; rfl
section WALK
variable {X : Cx} {d a : Nat} {L : LandT} {M : Mem} {Q : Option AV → Mem → Prop}
theorem kp_transfer {b c p t : Nat} (hd : 2 ≤ d) (hR : laR M a L) (hb : isK M b 14 8) (hba : ofa a b) (hl : icN L c (whL L) L.2.1) (hc : c < 4 ^ L.1) (hp : p < L.1) (ht : t < L.2.1) (hf : ∀ s, s < L.2.1 → mI M b s = nI (seL L c s))
    (h : ∀ B, Fr (atS b) M B → (∀ s, s < L.2.1 → mI B b s = nI (seL L (nxC L c p t) s)) → Q none B) : Cl X d 0 0 m_X3_transfer [vR a, vR b, vI (nI (2 ^ p)), vI (nI t)] M Q := by
  have hS := hR.1.1
  have hO := hR.2.2
  have hn := hO.1.2
  have h512 := p9 hn
  have hs4 := hO.2.1.2.1
  have k1 := hR.1.2.2.1.2.1
  have h2p : 2 ^ p < 512 := Nat.lt_of_lt_of_le (Nat.pow_lt_pow_right (by decide) hp) h512
  have hdm : dgB 2 L.1 c p < L.2.1 := nuF_lt hl.1 hp (by rw [tb_wh, decide_eq_true hp])
  have hlt : ∀ s, seL L c s < 2 ^ L.1 := fun s => sOB_lt _ _ _ _ _
  have key : ∀ r s, s + r = L.2.1 → WA X d 0 0 m_X3_transfer 6 [some (vR a), some (vR b), some (vI (nI (2 ^ p))), some (vI (nI t)), some (vI (nI (if dgB 2 L.1 c p < s then dgB 2 L.1 c p else 0))), some (vI (nI s))] [] M Q := by
    intro r
    induction r with
    | zero =>
      intro s hs
      obtain rfl : s = L.2.1 := by omega
      rw [if_pos hdm]
      refine b_X3_transfer_6 hS (by omega) ⟨fun _ => ?_, fun q => absurd (by rw [k1, na_le (by omega) (by omega)]; exact Nat.le_refl _) q⟩
      rw [na_eq (by omega) (by omega)]
      refine ⟨fun q => h M Fr.refl (fun s hs => ?_), fun q => ⟨8, hb, na_in (by omega) (by omega), ?_⟩⟩
      · have e : nxC L c p t = c := by
          unfold nxC
          rw [← q, mv_id hl hc, if_pos (jdL_ic.mpr hl)]
        rw [e]; exact hf s hs
      have hne : t ≠ dgB 2 L.1 c p := fun z => q z.symm
      obtain ⟨m1, m2⟩ := mv_ok hO hl hp ht hne
      have stay : (lwB L (seL L c (dgB 2 L.1 c p) ^^^ 2 ^ p) && lwB L (seL L c t ||| 2 ^ p)) = false → Q none M := fun hz => h M Fr.refl (fun s hs => by
        have e : nxC L c p t = c := by unfold nxC; rw [if_neg (m2 hz)]
        rw [e]; exact hf s hs)
      rw [na_ix (by omega), hf _ hdm, na_xor]
      refine kp_lawful hR (xor_lt (hlt _) hp) ⟨_, rfl, Ext.refl _, ?_⟩
      rw [bI_0]
      refine ⟨fun q1 => stay (by rw [q1]; rfl), fun q1 => ⟨na_in (by omega) (by omega), ?_⟩⟩
      have q1 : lwB L (seL L c (dgB 2 L.1 c p) ^^^ 2 ^ p) = true := by simpa using q1
      rw [na_ix (by omega), hf _ ht, na_or]
      refine kp_lawful hR (or2_lt (hlt _) hp) ⟨_, rfl, Ext.refl _, ?_⟩
      rw [bI_0]
      refine ⟨fun q2 => stay (by rw [q2]; simp), fun q2 => ⟨na_in (by omega) (by omega), na_in (by omega) (by omega), fun M3 e3 => ⟨na_in (by omega) (by omega), na_in (by omega) (by omega), fun M4 e4 => ?_⟩⟩⟩
      have q2 : lwB L (seL L c t ||| 2 ^ p) = true := by simpa using q2
      rw [hf _ hdm, na_xor] at e3
      have e3t : mI M3 b t = nI (seL L c t) := by rw [e3, mI_sI_i hne]; exact hf t ht
      rw [e3t, na_or] at e4
      have hF3 : Fr (atS b) M M4 := by rw [e4, e3]; exact (Fr.sI (S := atS b) rfl).trans (Fr.sI rfl)
      have e41 : mI M4 a 1 = nI L.2.1 := by
        rw [hF3.at (show ¬ atS b a 1 from fun z => by unfold atS at z; unfold ofa at hba; omega)]; exact k1
      rw [e41]
      obtain ⟨a1, a2, a3, a4⟩ := m1 (by rw [q1, q2]; rfl)
      have hD := mvD_lt (L := L) (c := c) (par := p) (seat := t) (show t < 4 by omega)
      have hDm : ∀ q, q < L.1 → mvD L c p t q < L.2.1 := fun q hq => by
        unfold mvD; split
        · exact ht
        · exact nuF_lt hl.1 hq (by rw [tb_wh, decide_eq_true hq])
      have hmv : ∀ s, s < L.2.1 → mI M4 b s = nI (mvF L c p t s) := fun s hs => by
        rw [e4, mI_sI]
        by_cases z1 : s = t
        · rw [if_pos ⟨rfl, z1⟩]; unfold mvF; rw [z1, if_neg hne, if_pos rfl]
        · rw [if_neg (fun z => z1 z.2), e3, mI_sI]
          by_cases z2 : s = dgB 2 L.1 c p
          · rw [if_pos ⟨rfl, z2⟩]; unfold mvF; rw [z2, if_pos rfl]
          · rw [if_neg (fun z => z2 z.2)]; unfold mvF; rw [if_neg z2, if_neg z1]; exact hf s hs
      refine kp_order (f := mvF L c p t) (by omega) (hF3.ext.1 _ _ _ hb) (by omega) (fun s hs => ⟨Nat.lt_of_lt_of_le (mvF_lt hp s) h512, hmv s hs⟩) (fun B g hFB hg hP hso => ⟨rfl, hFB.ext, h B (hF3.trans hFB) (fun s hs => ?_)⟩)
      obtain ⟨o1, o2, o3, o4⟩ := ord_fam hn hs4 (fun i hi => ⟨mvF_lt hp i, a4 i hi⟩) hD hDm (fun i hi q hq => mvF_tb hne hq) hP hso
      have e : nxC L c p t = mvL L c p t := by unfold nxC; rw [if_pos a1]
      rw [e, hg s hs, ← o4 s hs]
      rfl
    | succ r ih =>
      intro s hs
      have hn2 := ih (s + 1) (by omega)
      have hl2 := hlt s
      refine b_X3_transfer_6 hS (by omega) ⟨fun q => absurd (by rw [k1, na_le (by omega) (by omega)] at q; omega) (id : False → False), fun _ => ⟨8, hb, na_in (by omega) (by omega), ?_⟩⟩
      rw [na_ix (by omega), hf s (by omega)]
      have eb : (nI (seL L c s) &&& nI (2 ^ p) = nI 0) ↔ (seL L c s).testBit p = false := by
        rw [na_and, na_eq (by have := Nat.and_le_left (n := seL L c s) (m := 2 ^ p); omega) (by decide), and2p]
        cases (seL L c s).testBit p with
        | false => simp
        | true => simp
      rw [eb, seL_tb hp]
      refine ⟨fun q => ?_, fun q => ?_⟩
      · have q := of_decide_eq_false q
        rw [nI_add]
        by_cases z : dgB 2 L.1 c p < s
        · rw [if_pos (by omega)] at hn2; rw [if_pos z]; exact hn2
        · rw [if_neg (by omega)] at hn2; rw [if_neg z]; exact hn2
      · have q : dgB 2 L.1 c p = s := by simpa using q
        rw [nI_add]
        rw [q, if_pos (Nat.lt_succ_self s)] at hn2; exact hn2
  have := key L.2.1 0 (by omega)
  rw [if_neg (Nat.not_lt_zero _)] at this
  exact e_X3_transfer (b_X3_transfer_0 hS this)
theorem kp_wander {b c n : Nat} {sd : Int64} (hd : 3 ≤ d) (hR : laR M a L) (hb : isK M b 14 8) (hba : ofa a b) (hl : icN L c (whL L) L.2.1) (hc : c < 4 ^ L.1) (hn : n ≤ 500) (hf : ∀ s, s < L.2.1 → mI M b s = nI (seL L c s))
    (h : ∀ B, Fr (atS b) M B → (∀ s, s < L.2.1 → mI B b s = nI (seL L (wkF L n sd c) s)) → icN L (wkF L n sd c) (whL L) L.2.1 → wkF L n sd c < 4 ^ L.1 → Q none B) : Cl X d 0 0 m_X3_wander [vR a, vR b, vJ sd, vI (nI n)] M Q := by
  have hO := hR.2.2
  have hn1 := hO.1
  have hs4 := hO.2.1
  have key : ∀ (r i : Nat) (s : Int64) (e : Nat) (B : Mem), i + r = n → Fr (atS b) M B → icN L e (whL L) L.2.1 → e < 4 ^ L.1 → (∀ s, s < L.2.1 → mI B b s = nI (seL L e s)) → wkF L r s e = wkF L n sd c → WA X d 0 0 m_X3_wander 6 [some (vR a), some (vR b), none, none, some (vI (nI n)), some (vJ s), none, some (vI (nI i)), none] [] B Q := by
    intro r
    induction r with
    | zero =>
      intro i s e B hi hF he1 he2 hB hw
      have hw : e = wkF L n sd c := hw
      have hRB := hR.at hF hba
      rw [← hw] at h
      exact b_X3_wander_6 hRB.1.1 (by omega) ⟨fun _ => h B hF hB he1 he2, fun q => absurd (by rw [na_le (by omega) (by omega)]; omega) q⟩
    | succ r ih =>
      intro i s e B hi hF he1 he2 hB hw
      have hRB := hR.at hF hba
      have hy := wkY_lt s
      have k0 := hRB.1.2.2.1.1
      have k1 := hRB.1.2.2.1.2.1
      have hdiv : wkY s / L.1 < 2 ^ 31 := Nat.lt_of_le_of_lt (Nat.div_le_self _ _) hy
      have m1 := Nat.mod_lt (wkY s) (show 0 < L.1 by omega)
      have m2 := Nat.mod_lt (wkY s / L.1) (show 0 < L.2.1 by omega)
      refine b_X3_wander_6 hRB.1.1 (by omega) ⟨fun q => absurd (by rw [na_le (by omega) (by omega)] at q; omega) (id : False → False), fun _ x1 e1 => ?_⟩
      have elu : lushr (s * 6364136223846793005 + 1442695040888963407) (nI 33) = lN (wkY s) := lu33 (wkX s)
      rw [elu, lN_i] at e1
      rw [k0, k1, e1]
      refine ⟨fun q => absurd (by rw [na_le (by omega) (by decide)] at q; omega) (id : False → False), fun _ => ⟨fun q => absurd (by rw [na_le (by omega) (by decide)] at q; omega) (id : False → False), fun _ => ?_⟩⟩
      have z1 : ¬ nI L.1 = nI 0 := fun z => by rw [na_eq (by omega) (by decide)] at z; omega
      have z2 : ¬ nI L.2.1 = nI 0 := fun z => by rw [na_eq (by omega) (by decide)] at z; omega
      refine ⟨z1, z1, z2, ?_⟩
      rw [na_rem hy (by omega) (by omega), pk_div hy (by omega) (by omega), na_rem hdiv (by omega) (by omega), na_1shl (by omega)]
      rw [wkF_S] at hw
      refine kp_transfer (by omega) hRB (hF.ext.1 _ _ _ hb) hba he1 he2 m1 m2 hB (fun B2 hF2 hB2 => ⟨rfl, hF2.ext, ?_⟩)
      rw [nI_add]
      refine ih (i + 1) (wkX s) _ B2 (by omega) (hF.trans hF2) ?_ ?_ hB2 hw
      · unfold nxC
        split
        · rename_i hj; exact jdL_ic.mp hj
        · exact he1
      · unfold nxC
        split
        · exact mvL_lt (by omega)
        · exact he2
  exact e_X3_wander (b_X3_wander_0 hR.1.1 (key n 0 sd c M (by omega) Fr.refl hl hc hf rfl))
end WALK
