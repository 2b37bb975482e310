/-! HOW FAR APART: all pairings at once -/
theorem mxF_ge {f : Nat → Nat} {k : Nat} : ∀ {n : Nat}, k < n → f k ≤ mxF f n
  | n + 1, h => by
    show f k ≤ max (mxF f n) (f n)
    by_cases z : k = n
    · subst z; exact Nat.le_max_right _ _
    · exact Nat.le_trans (mxF_ge (show k < n by omega)) (Nat.le_max_left _ _)
theorem mxF_at (f : Nat → Nat) : ∀ n, mxF f n = 0 ∨ ∃ k, k < n ∧ mxF f n = f k
  | 0 => Or.inl rfl
  | n + 1 => by
    show max (mxF f n) (f n) = 0 ∨ ∃ k, k < n + 1 ∧ max (mxF f n) (f n) = f k
    by_cases h : mxF f n ≤ f n
    · exact Or.inr ⟨n, by omega, Nat.max_eq_right h⟩
    · rcases mxF_at f n with z | ⟨k, hk, z⟩
      · omega
      · exact Or.inr ⟨k, by omega, by rw [Nat.max_eq_left (by omega)]; exact z⟩
theorem pc_ins : ∀ T, T < 16 → ∀ o, o < 4 → T.testBit o = false → pcN 9 (T ||| 2 ^ o) = pcN 9 T + 1 ∧ (T ||| 2 ^ o) ^^^ 2 ^ o = T ∧ (T ||| 2 ^ o).testBit o = true := by decide +kernel
theorem pc_del : ∀ T, T < 16 → ∀ s, s < 4 → T.testBit s = true → pcN 9 (T ^^^ 2 ^ s) + 1 = pcN 9 T ∧ (T ^^^ 2 ^ s) ||| 2 ^ s = T ∧ T ^^^ 2 ^ s < T ∧ (T ^^^ 2 ^ s).testBit s = false := by decide +kernel
theorem pc_top0 : ∀ m, m < 5 → ∀ T, T < 2 ^ m → (pcN 9 T ≤ m ∧ (pcN 9 T = m → T = 2 ^ m - 1)) ∧ (pcN 9 T = 0 → T = 0) ∧ (pcN 9 T < m → (List.range m).any (fun o => !T.testBit o) = true) ∧ (0 < pcN 9 T → (List.range m).any (fun s => T.testBit s) = true) := by decide +kernel
theorem pc_top (m : Nat) (hm : m < 5) (T : Nat) (hT : T < 2 ^ m) : (pcN 9 T ≤ m ∧ (pcN 9 T = m → T = 2 ^ m - 1)) ∧ (pcN 9 T = 0 → T = 0) ∧ (pcN 9 T < m → ∃ o, o < m ∧ T.testBit o = false) ∧ (0 < pcN 9 T → ∃ s, s < m ∧ T.testBit s = true) := by
  obtain ⟨h1, h2, h3, h4⟩ := pc_top0 m hm T hT
  refine ⟨h1, h2, fun q => ?_, fun q => ?_⟩
  · obtain ⟨o, o1, o2⟩ := List.any_eq_true.mp (h3 q)
    exact ⟨o, List.mem_range.mp o1, by simpa using o2⟩
  · obtain ⟨o, o1, o2⟩ := List.any_eq_true.mp (h4 q)
    exact ⟨o, List.mem_range.mp o1, o2⟩
section PAIRING
variable {L : LandT} {c e : Nat}
def wP (L : LandT) (c e k o : Nat) : Nat := pcN 9 (seL L c k &&& seL L e o)
/-- the best pairing of the first seats of c with each set of e's -/
def cmP (L : LandT) (c e : Nat) (C : Nat → Nat) (n : Nat) : Prop := C 0 = 0 ∧ ∀ T, 1 ≤ T → T < n → C T = mxF (fun s => if T.testBit s then C (T ^^^ 2 ^ s) + wP L c e (pcN 9 T - 1) s else 0) L.2.1
theorem stB_S (r u : Nat) : stB L c e (r + 1) u = mxF (fun o => if u.testBit o then 0 else wP L c e (L.2.1 - (r + 1)) o + stB L c e r (u ||| 2 ^ o)) L.2.1 := rfl
theorem cm_ge {C : Nat → Nat} (hm : L.2.1 ≤ 4) (hC : cmP L c e C (2 ^ L.2.1)) {T o : Nat} (hT : T < 2 ^ L.2.1) (ho : o < L.2.1) (hb : T.testBit o = false) : C T + wP L c e (pcN 9 T) o ≤ C (T ||| 2 ^ o) := by
  have h16 : 2 ^ L.2.1 ≤ 16 := Nat.pow_le_pow_right (n := 2) (by decide) hm
  obtain ⟨p1, p2, p3⟩ := pc_ins T (by omega) o (by omega) hb
  have hlt := or2_lt hT ho
  have h1 : 1 ≤ T ||| 2 ^ o := by have := or_ne0 (a := T) (p := o); omega
  rw [hC.2 _ h1 hlt]
  have t : (if (T ||| 2 ^ o).testBit o then C ((T ||| 2 ^ o) ^^^ 2 ^ o) + wP L c e (pcN 9 (T ||| 2 ^ o) - 1) o else 0) = C T + wP L c e (pcN 9 T) o := by rw [if_pos p3, p2, p1, Nat.add_sub_cancel]
  exact Nat.le_trans (Nat.le_of_eq t.symm) (mxF_ge (f := fun s => if (T ||| 2 ^ o).testBit s then C ((T ||| 2 ^ o) ^^^ 2 ^ s) + wP L c e (pcN 9 (T ||| 2 ^ o) - 1) s else 0) ho)
theorem cm_up {C : Nat → Nat} (hm : L.2.1 ≤ 4) (hC : cmP L c e C (2 ^ L.2.1)) : ∀ r T, T < 2 ^ L.2.1 → pcN 9 T + r = L.2.1 → C T + stB L c e r T ≤ C (2 ^ L.2.1 - 1)
  | 0, T, hT, hp => by
    rw [(pc_top L.2.1 (by omega) T hT).1.2 (by omega)]; exact Nat.le_refl _
  | r + 1, T, hT, hp => by
    have h16 : 2 ^ L.2.1 ≤ 16 := Nat.pow_le_pow_right (n := 2) (by decide) hm
    have step : ∀ o, o < L.2.1 → T.testBit o = false → C T + wP L c e (L.2.1 - (r + 1)) o + stB L c e r (T ||| 2 ^ o) ≤ C (2 ^ L.2.1 - 1) := fun o ho hb => by
      have g := cm_ge (c := c) (e := e) hm hC hT ho hb
      rw [show pcN 9 T = L.2.1 - (r + 1) by omega] at g
      have p1 := (pc_ins T (by omega) o (by omega) hb).1
      have := cm_up hm hC r (T ||| 2 ^ o) (or2_lt hT ho) (by omega)
      omega
    obtain ⟨o1, h1, h2⟩ := (pc_top L.2.1 (by omega) T hT).2.2.1 (by omega)
    have base := step o1 h1 h2
    rw [stB_S]
    rcases mxF_at (fun o => if T.testBit o then 0 else wP L c e (L.2.1 - (r + 1)) o + stB L c e r (T ||| 2 ^ o)) L.2.1 with z | ⟨k, hk, z⟩
    · rw [z]; omega
    · rw [z]
      try dsimp only
      by_cases hb : T.testBit k = true
      · rw [if_pos hb]; omega
      · rw [if_neg hb]
        have := step k hk (by simpa using hb)
        omega
theorem cm_dn {C : Nat → Nat} (hm : L.2.1 ≤ 4) (hC : cmP L c e C (2 ^ L.2.1)) : ∀ k T, T < 2 ^ L.2.1 → pcN 9 T = k → C T + stB L c e (L.2.1 - k) T ≤ stB L c e L.2.1 0
  | 0, T, hT, hp => by
    have h16 : 2 ^ L.2.1 ≤ 16 := Nat.pow_le_pow_right (n := 2) (by decide) hm
    rw [(pc_top L.2.1 (by omega) T hT).2.1 hp, hC.1, Nat.sub_zero, Nat.zero_add]
    exact Nat.le_refl _
  | k + 1, T, hT, hp => by
    have h16 : 2 ^ L.2.1 ≤ 16 := Nat.pow_le_pow_right (n := 2) (by decide) hm
    have hk := (pc_top L.2.1 (by omega) T hT).1.1
    have step : ∀ s, s < L.2.1 → T.testBit s = true → C (T ^^^ 2 ^ s) + wP L c e k s + stB L c e (L.2.1 - (k + 1)) T ≤ stB L c e L.2.1 0 := fun s hs hb => by
      obtain ⟨p1, p2, p3, p4⟩ := pc_del T (by omega) s (by omega) hb
      have ih := cm_dn hm hC k (T ^^^ 2 ^ s) (by omega) (by omega)
      have hr : L.2.1 - k = (L.2.1 - (k + 1)) + 1 := by omega
      rw [hr, stB_S] at ih
      have t : (if (T ^^^ 2 ^ s).testBit s then 0 else wP L c e (L.2.1 - (L.2.1 - (k + 1) + 1)) s + stB L c e (L.2.1 - (k + 1)) ((T ^^^ 2 ^ s) ||| 2 ^ s)) = wP L c e k s + stB L c e (L.2.1 - (k + 1)) T := by
        rw [if_neg (by rw [p4]; decide), p2, show L.2.1 - (L.2.1 - (k + 1) + 1) = k by omega]
      have g := Nat.le_trans (Nat.le_of_eq t.symm) (mxF_ge (f := fun o => if (T ^^^ 2 ^ s).testBit o then 0 else wP L c e (L.2.1 - (L.2.1 - (k + 1) + 1)) o + stB L c e (L.2.1 - (k + 1)) ((T ^^^ 2 ^ s) ||| 2 ^ o)) hs)
      omega
    obtain ⟨s1, h1, h2⟩ := (pc_top L.2.1 (by omega) T hT).2.2.2 (by omega)
    have base := step s1 h1 h2
    have hT1 : 1 ≤ T := by
      rcases Nat.eq_zero_or_pos T with z | z
      · subst z; rw [show pcN 9 0 = 0 by decide] at hp; omega
      · exact z
    rw [hC.2 T hT1 hT]
    rcases mxF_at (fun s => if T.testBit s then C (T ^^^ 2 ^ s) + wP L c e (pcN 9 T - 1) s else 0) L.2.1 with z | ⟨j, hj, z⟩
    · rw [z]; omega
    · rw [z]
      try dsimp only
      by_cases hb : T.testBit j = true
      · rw [if_pos hb]
        have g := step j hj hb
        have hpk : pcN 9 T - 1 = k := by omega
        rw [hpk]
        omega
      · rw [if_neg hb]; omega
theorem cm_all {C : Nat → Nat} (hm : L.2.1 ≤ 4) (hC : cmP L c e C (2 ^ L.2.1)) : C (2 ^ L.2.1 - 1) = stB L c e L.2.1 0 := by
  have hp := Nat.two_pow_pos L.2.1
  have a := cm_up hm hC L.2.1 0 hp (by rw [show pcN 9 0 = 0 by decide, Nat.zero_add])
  rw [hC.1, Nat.zero_add] at a
  have hpc : ∀ m, m < 5 → pcN 9 (2 ^ m - 1) = m := by decide
  have b := cm_dn hm hC L.2.1 (2 ^ L.2.1 - 1) (by omega) (hpc _ (by omega))
  omega
theorem cm_le {C : Nat → Nat} {n : Nat} (hn : n ≤ 16) (hm : L.2.1 ≤ 4) (hC : cmP L c e C n) : ∀ T, T < n → C T ≤ 9 * T := by
  intro T
  induction T using Nat.strongRecOn with
  | _ T ih =>
    intro hT
    rcases Nat.eq_zero_or_pos T with z | z
    · subst z; rw [hC.1]; exact Nat.zero_le _
    · rw [hC.2 T z hT]
      refine mxF_le (fun s hs => ?_)
      by_cases hb : T.testBit s = true
      · rw [if_pos hb]
        obtain ⟨p1, p2, p3, p4⟩ := pc_del T (by omega) s (by omega) hb
        have := ih _ p3 (by omega)
        have := pcN_le 9 (seL L c (pcN 9 T - 1) &&& seL L e s)
        unfold wP
        omega
      · rw [if_neg hb]; omega
end PAIRING
def coS (a b k : Nat) : Prop := b = a + 1 ∧ k ≠ 0
section DIST
variable {X : Cx} {d a : Nat} {L : LandT} {M : Mem} {Q : Option AV → Mem → Prop}
theorem laC.co {B : Mem} (h : laC M a L) (hF : Fr (coS a) M B) : laC B a L := h.fr hF (fun k hk q => by unfold coS at q; omega) (fun k => ⟨fun q => by unfold coS at q; omega, fun q => by unfold coS at q; omega, fun q => by unfold coS at q; omega, fun q => by unfold coS at q; omega⟩) (fun q => by unfold coS at q; omega)
theorem laR.co {B : Mem} (h : laR M a L) (hF : Fr (coS a) M B) : laR B a L := ⟨h.1.co hF, h.2.1.fr hF (fun k => ⟨fun q => by unfold coS at q; omega, fun q => by unfold coS at q; omega, fun q => by unfold coS at q; omega⟩), h.2.2⟩
theorem kp_distance {b1 b2 c e : Nat} (hd : 1 ≤ d) (hR : laR M a L) (hz : mI M (a + 1) 0 = nI 0) (h1 : isK M b1 14 8) (h2 : isK M b2 14 8) (ha1 : ofa a b1) (ha2 : ofa a b2) (hf1 : ∀ s, s < L.2.1 → mI M b1 s = nI (seL L c s)) (hf2 : ∀ s, s < L.2.1 → mI M b2 s = nI (seL L e s))
    (h : ∀ B, Fr (coS a) M B → Q (some (vI (zI (dsL L c e)))) B) : Cl X d 0 0 m_X3_distance [vR a, vR b1, vR b2] M Q := by
  have hO := hR.2.2
  have h512 := p9 hO.1.2
  have hs := hO.2.1
  have h16 : 2 ^ L.2.1 ≤ 16 := Nat.pow_le_pow_right (n := 2) (by decide) hs.2.1
  have hlt : ∀ x s, seL L x s < 512 := fun x s => Nat.lt_of_lt_of_le (sOB_lt _ _ _ _ _) h512
  have nb1 : b1 ≠ a + 1 := by unfold ofa at ha1; omega
  have nb2 : b2 ≠ a + 1 := by unfold ofa at ha2; omega
  have outer : ∀ r T (B : Mem) (C : Nat → Nat), 1 ≤ T → T + r = 2 ^ L.2.1 → Fr (coS a) M B → cmP L c e C T → (∀ k, k < T → mI B (a + 1) k = nI (C k)) → WA X d 0 0 m_X3_distance 2 [some (vR a), some (vR b1), some (vR b2), some (vI (nI T)), none, none, none, none] [] B Q := by
    intro r
    induction r with
    | zero =>
      intro T B C hT1 hT hF hC hB
      obtain rfl : T = 2 ^ L.2.1 := by omega
      have hRB := hR.co hF
      have k0 := hRB.1.2.2.1.1
      have k1 := hRB.1.2.2.1.2.1
      have e1 : shl (nI 1) (nI L.2.1) = nI (2 ^ L.2.1) := na_1shl (by omega)
      refine b_X3_distance_2 hRB.1.1 hd ⟨fun _ => ⟨?_, ?_⟩, fun q => absurd (by rw [k1, e1]; exact Int32.le_refl _) q⟩
      · rw [k1, e1, na_sub (by omega)]; exact na_in (by omega) (by decide)
      · rw [k1, k0, e1, na_sub (by omega), na_ix (by omega), hB _ (by omega), cm_all hs.2.1 hC, nI_subz]
        exact h B hF
    | succ r ih =>
      intro T B C hT1 hT hF hC hB
      have hRB := hR.co hF
      have k1 := hRB.1.2.2.1.2.1
      have e1 : shl (nI 1) (nI L.2.1) = nI (2 ^ L.2.1) := na_1shl (by omega)
      have hpt := pc_top L.2.1 (by omega) T (by omega)
      have hp0 : 0 < pcN 9 T := by
        rcases Nat.eq_zero_or_pos (pcN 9 T) with z | z
        · have := hpt.2.1 z; omega
        · exact z
      have hpm := hpt.1.1
      have hCl := cm_le (n := T) (by omega) hs.2.1 hC
      refine b_X3_distance_2 hRB.1.1 hd ⟨fun q => absurd (by rw [k1, e1, na_le (by omega) (by omega)] at q; omega) (id : False → False), fun _ => ?_⟩
      refine sp_bitCount (by omega) ⟨_, rfl, Ext.refl _, fun x2 e2 => ?_⟩
      rw [na_sub (by omega)] at e2
      rw [e2]
      have inner : ∀ r2 s, s + r2 = L.2.1 → WA X d 0 0 m_X3_distance 26 [some (vR a), some (vR b1), some (vR b2), some (vI (nI T)), some (vI (nI (pcN 9 T - 1))), some (vI (nI (mxF (fun s => if T.testBit s then C (T ^^^ 2 ^ s) + wP L c e (pcN 9 T - 1) s else 0) s))), some (vI (nI s)), none] [] B Q := by
        intro r2
        induction r2 with
        | zero =>
          intro s hs2
          obtain rfl : s = L.2.1 := by omega
          refine b_X3_distance_26 hRB.1.1 hd ⟨fun _ => ⟨na_in (by omega) (by decide), fun M1 em => ?_⟩, fun q => absurd (by rw [k1]; exact Int32.le_refl _) q⟩
          rw [na_ix (by omega)] at em
          rw [nI_add]
          refine ih (T + 1) M1 (fun k => if k = T then mxF (fun s => if T.testBit s then C (T ^^^ 2 ^ s) + wP L c e (pcN 9 T - 1) s else 0) L.2.1 else C k) (by omega) (by omega) (by rw [em]; exact hF.trans (Fr.sI ⟨rfl, by omega⟩)) ⟨?_, fun U hU1 hU2 => ?_⟩ (fun k hk => ?_)
          · show (if 0 = T then _ else C 0) = 0
            rw [if_neg (by omega)]; exact hC.1
          · have hsub : ∀ s, s < L.2.1 → U.testBit s = true → U ^^^ 2 ^ s < U := fun s hs3 hb => (pc_del U (by omega) s (by omega) hb).2.2.1
            have cong : ∀ (f g : Nat → Nat) n, (∀ s, s < n → f s = g s) → mxF f n = mxF g n := by
              intro f g n
              induction n with
              | zero => intro _; rfl
              | succ n ihn =>
                intro hh
                show max (mxF f n) (f n) = max (mxF g n) (g n)
                rw [ihn (fun s q => hh s (by omega)), hh n (by omega)]
            by_cases z : U = T
            · subst z
              try dsimp only
              rw [if_pos rfl]
              refine cong _ _ _ (fun s hs3 => ?_)
              by_cases hb : U.testBit s = true
              · rw [if_pos hb, if_pos hb, if_neg (by have := hsub s hs3 hb; omega)]
              · rw [if_neg hb, if_neg hb]
            · dsimp only
              rw [if_neg z, hC.2 U hU1 (by omega)]
              refine cong _ _ _ (fun s hs3 => ?_)
              by_cases hb : U.testBit s = true
              · rw [if_pos hb, if_pos hb, if_neg (by have := hsub s hs3 hb; omega)]
              · rw [if_neg hb, if_neg hb]
          · rw [em, mI_sI]
            try dsimp only
            by_cases z : k = T
            · subst z; rw [if_pos ⟨rfl, rfl⟩, if_pos rfl]
            · rw [if_neg (fun w => z w.2), if_neg z]; exact hB k (by omega)
        | succ r2 ih2 =>
          intro s hs2
          have hn2 := ih2 (s + 1) (by omega)
          have em : mxF (fun s => if T.testBit s then C (T ^^^ 2 ^ s) + wP L c e (pcN 9 T - 1) s else 0) (s + 1) = max (mxF (fun s => if T.testBit s then C (T ^^^ 2 ^ s) + wP L c e (pcN 9 T - 1) s else 0) s) (if T.testBit s then C (T ^^^ 2 ^ s) + wP L c e (pcN 9 T - 1) s else 0) := rfl
          have hle : ∀ n, mxF (fun s => if T.testBit s then C (T ^^^ 2 ^ s) + wP L c e (pcN 9 T - 1) s else 0) n ≤ 9 * 16 + 9 := fun n => by
            have : ∀ s, (if T.testBit s then C (T ^^^ 2 ^ s) + wP L c e (pcN 9 T - 1) s else 0) ≤ 9 * 16 + 9 := fun s => by
              by_cases hb : T.testBit s = true
              · rw [if_pos hb]
                have hs4 : s < 4 := by
                  refine Classical.byContradiction (fun hc => ?_)
                  have := tbF (a := T) (n := 4) (q := s) (by omega) (by omega)
                  rw [this] at hb; cases hb
                have p3 := (pc_del T (by omega) s hs4 hb).2.2.1
                have := hCl _ p3
                have := pcN_le 9 (seL L c (pcN 9 T - 1) &&& seL L e s)
                unfold wP; omega
              · rw [if_neg hb]; omega
            exact mxF_le (fun k _ => this k)
          refine b_X3_distance_26 hRB.1.1 hd ⟨fun q => absurd (by rw [k1, na_le (by omega) (by omega)] at q; omega) (id : False → False), fun _ => ?_⟩
          rw [bit0 (by omega) (by omega)]
          refine ⟨fun q => ?_, fun q => ⟨8, hF.ext.1 _ _ _ h1, na_in (by omega) (by omega), 8, hF.ext.1 _ _ _ h2, na_in (by omega) (by omega), ?_⟩⟩
          · rw [em, if_neg (by rw [q]; decide), Nat.max_eq_left (Nat.zero_le _)] at hn2
            rw [nI_add]; exact hn2
          · have q : T.testBit s = true := by simpa using q
            obtain ⟨p1, p2, p3, p4⟩ := pc_del T (by omega) s (by omega) q
            rw [na_ix (by omega), na_ix (by omega), hF.at (show ¬ coS a b1 _ from fun z => nb1 z.1), hF.at (show ¬ coS a b2 _ from fun z => nb2 z.1), hf1 _ (by omega), hf2 _ (by omega), na_and]
            refine sp_bitCount (Nat.lt_of_le_of_lt Nat.and_le_left (hlt _ _)) ⟨_, rfl, Ext.refl _, ?_⟩
            rw [na_1shl (by omega), na_xor]
            refine ⟨na_in (by omega) (by decide), fun x3 e3 => ?_⟩
            have hc1 := hCl _ p3
            have hc2 := pcN_le 9 (seL L c (pcN 9 T - 1) &&& seL L e s)
            rw [na_ix (by omega), hB _ p3, nI_add, maxI_n (by have := hle s; omega) (by omega)] at e3
            rw [em, if_pos q] at hn2
            rw [e3, nI_add]; exact hn2
      exact inner L.2.1 0 (by omega)
  refine e_X3_distance (b_X3_distance_0 hR.1.1 (outer (2 ^ L.2.1 - 1) 1 M (fun _ => 0) (Nat.le_refl _) (by have := Nat.two_pow_pos L.2.1; omega) Fr.refl ⟨rfl, fun T h3 h4 => by omega⟩ (fun k hk => ?_)))
  obtain rfl : k = 0 := by omega
  exact hz
end DIST
