/-! THE CLASS: room for a roll -/
/-- ways to sort p parishes into s seats -/
def wy : Nat → Nat → Nat
  | 0, s => if s = 0 then 1 else 0
  | p + 1, s => if s = 0 then 0 else wy p s * s + wy p (s - 1)
theorem wy_dec : ∀ p, p < 10 → ∀ s, s < 5 → wy p s < 65536 := by decide +kernel
theorem wy_pos : ∀ p, p < 10 → ∀ s, s < 5 → 1 ≤ s → s ≤ p → 0 < wy p s := by decide +kernel
def sE (m : Nat) : Nat → Nat → Nat
  | 0, u => if u = m then 1 else 0
  | r + 1, u => u * sE m r u + (if u < m then sE m r (u + 1) else 0)
theorem sE_dec : ∀ m, m < 5 → 1 ≤ m → ∀ n, n < 10 → sE m n 0 = wy n m := by decide +kernel
theorem flatR_sz {f : Nat → List Nat} {c : Nat} : ∀ k s, (∀ t, s ≤ t → t < s + k → (f t).length = c) → (flatR f k s).length = k * c
  | 0, _, _ => by simp [flatR]
  | k + 1, s, h => by
    show (f s ++ flatR f k (s + 1)).length = _
    rw [List.length_append, h s (by omega) (by omega), flatR_sz k (s + 1) (fun t a b => h t (by omega) (by omega)), Nat.succ_mul]
    omega
theorem enB_full {b n o m : Nat} (ho : ∀ p, p < n → o.testBit p = true) : ∀ r u c, r ≤ n → u ≤ m → (enB b n o m r u c).length = sE m r u
  | 0, u, c, _, _ => by unfold enB sE; split <;> simp
  | r + 1, u, c, hr, hu => by
    unfold enB sE
    rw [ho _ (by omega), if_pos rfl]
    by_cases hm : u < m
    · rw [Nat.min_eq_left (by omega), if_pos hm, flatR_snoc, List.length_append, flatR_sz (c := sE m r u) u 0 (fun t a b => ?_), Nat.zero_add, enB_full ho r _ _ (by omega) (by rw [Nat.max_eq_right (by omega)]; omega), Nat.max_eq_right (by omega)]
      rw [enB_full ho r _ _ (by omega) (by rw [Nat.max_eq_left (by omega)]; omega), Nat.max_eq_left (by omega)]
    · rw [Nat.min_eq_right (by omega), if_neg hm, flatR_sz (c := sE m r u) m 0 (fun t a b => ?_), show u = m by omega, Nat.add_zero]
      rw [enB_full ho r _ _ (by omega) (by rw [Nat.max_eq_left (by omega)]; omega), Nat.max_eq_left (by omega)]
theorem lsL_wy {L : LandT} (hO : LdOK L) : (lsL L (whL L) L.2.1).length ≤ wy L.1 L.2.1 := by
  have h1 := hO.1.2
  have h2 := hO.2.1.2.1
  have h3 := hO.2.1.1
  unfold lsL
  refine Nat.le_trans (List.length_filter_le _ _) ?_
  rw [enB_full (fun p hp => by rw [tb_wh, decide_eq_true hp]) L.1 0 0 (Nat.le_refl _) (Nat.zero_le _), sE_dec _ (by omega) h3 _ (by omega)]
  exact Nat.le_refl _
/-- what is old has not changed outside S and T; there may be new cells -/
def Fal (S T : Nat → Nat → Prop) (M B : Mem) : Prop := nx M ≤ nx B ∧ (∀ a i, a < nx M → ¬ S a i → mI B a i = mI M a i) ∧ (∀ a i, a < nx M → ¬ T a i → mR B a i = mR M a i) ∧ (∀ a i, a < nx M → mJ B a i = mJ M a i) ∧ ∀ a k n, isK M a k n → isK B a k n
theorem Fal.refl {S T : Nat → Nat → Prop} {M : Mem} : Fal S T M M := ⟨Nat.le_refl _, fun _ _ _ _ => rfl, fun _ _ _ _ => rfl, fun _ _ _ => rfl, fun _ _ _ h => h⟩
theorem Fal.trans {S T : Nat → Nat → Prop} {M B C : Mem} (h1 : Fal S T M B) (h2 : Fal S T B C) : Fal S T M C :=
  ⟨Nat.le_trans h1.1 h2.1, fun a i ha h => (h2.2.1 a i (Nat.lt_of_lt_of_le ha h1.1) h).trans (h1.2.1 a i ha h), fun a i ha h => (h2.2.2.1 a i (Nat.lt_of_lt_of_le ha h1.1) h).trans (h1.2.2.1 a i ha h), fun a i ha => (h2.2.2.2.1 a i (Nat.lt_of_lt_of_le ha h1.1)).trans (h1.2.2.2.1 a i ha), fun a k n h => h2.2.2.2.2 a k n (h1.2.2.2.2 a k n h)⟩
theorem Frr.al {S T : Nat → Nat → Prop} {M B : Mem} (h : Frr S T M B) : Fal S T M B :=
  ⟨by unfold nx; rw [h.2.2]; exact Nat.le_refl _, fun a i _ q => h.1 a i q, fun a i _ q => h.2.1 a i q, fun a i _ => by unfold mJ; rw [h.2.2], fun a k n hk => h.k hk⟩
theorem Fal.nw {S T : Nat → Nat → Prop} {M : Mem} {k n : Nat} : Fal S T M (nw M k n) := by
  refine ⟨?_, fun a i ha _ => ?_, fun a i ha _ => ?_, fun a i ha => ?_, fun a k' n' h => isK_nw_old h⟩
  · show M.2.2.2.length ≤ (M.2.2.2 ++ [(k, n)]).length
    simp
  · show (if a = nx M then 0 else mI M a i) = _
    rw [if_neg (Nat.ne_of_lt ha)]
  · show (if a = nx M then 0 else mR M a i) = _
    rw [if_neg (Nat.ne_of_lt ha)]
  · show (if a = nx M then 0 else mJ M a i) = _
    rw [if_neg (Nat.ne_of_lt ha)]
theorem nx_nw {M : Mem} {k n : Nat} : nx (nw M k n) = nx M + 1 := by
  show (M.2.2.2 ++ [(k, n)]).length = M.2.2.2.length + 1
  simp
theorem mI_nw {M : Mem} {k n i : Nat} : mI (nw M k n) (nx M) i = 0 := by
  show (if nx M = nx M then 0 else mI M (nx M) i) = 0
  rw [if_pos rfl]
def rmS (a b k : Nat) : Prop := b = a ∧ k = 2
def rmT (a b k : Nat) : Prop := b = a ∧ k ≤ 1
section ROOM
variable {X : Cx} {d kc ns a n m : Nat} {M : Mem} {Q : Option AV → Mem → Prop}
theorem kp_room0 {K : Nat} (hS : RoS M a) (hK : isK M (mR M a 0) 14 K) (h0 : 0 < K ∧ K < 2 ^ 31) {x y : Int32} (h : Q none (sI M a 2 (nI 0))) : Cl X d kc ns m_X8_makeRoom [vR a, vI x, vI y] M Q :=
  e_X8_makeRoom (b_X8_makeRoom_0 hS (fun M1 e1 => by
    rw [e1]
    exact ⟨K, hK, fun q => absurd (by rw [na_le (by omega) (by decide)] at q; omega) (id : False → False), fun _ => h⟩))
theorem kp_room (hS : RoS M a) (hK : isK M (mR M a 0) 14 0) (hn : n ≤ 9) (hm : 1 ≤ m ∧ m ≤ 4 ∧ m ≤ n) (hkc : 3 ≤ kc) (hns : 5 + 2 * wy n m ≤ ns)
    (h : ∀ B, Fal (rmS a) (rmT a) M B → nx B = nx M + 3 → mR B a 0 = nx M + 1 → mR B a 1 = nx M + 2 → isK B (nx M + 1) 14 (wy n m) → isK B (nx M + 2) 14 (wy n m) → mI B a 2 = nI 0 → Q none B) : Cl X d kc ns m_X8_makeRoom [vR a, vI (nI n), vI (nI m)] M Q := by
  have halt : a < nx M := isK_lt hS
  have hw := wy_dec n (by omega) m (by omega)
  have hwp := wy_pos n (by omega) m (by omega) hm.1 hm.2.2
  refine e_X8_makeRoom (b_X8_makeRoom_0 hS (fun M1 e1 => ?_))
  have hF1 : Fal (rmS a) (rmT a) M M1 := by rw [e1]; exact ((Fr.sI ⟨rfl, rfl⟩).rr).al
  have hK1 : isK M1 (mR M1 a 0) 14 0 := by rw [e1]; exact hK
  have x1 : nx M1 = nx M := by rw [e1]; rfl
  have m2 : mI M1 a 2 = nI 0 := by rw [e1, mI_sI_eq]
  refine ⟨0, hK1, fun _ => ⟨na_in (by decide) (by decide), by omega, ?_, fun M2 e2 => ⟨na_in (by decide) (by decide), fun M3 e3 => ?_⟩⟩, fun q => absurd (by decide) q⟩
  · rw [na_ix (by decide)]; omega
  rw [na_ix (by decide)] at e2
  rw [show ix (nI 0) = 0 from rfl, x1] at e3
  rw [x1, na_ix (by decide)]
  have x2 : nx M2 = nx M + 1 := by rw [e2, nx_nw, x1]
  have hk2 : isK M2 (nx M) 14 5 := by
    have := isK_nw (M := M1) (k := 14) (n0 := 5)
    rw [x1] at this
    rw [e2]; exact this
  have hF3 : Fal (fun b k => rmS a b k ∨ b = nx M) (rmT a) M1 M3 := by
    rw [e3, e2]
    exact Fal.nw.trans ((Fr.sI (Or.inr rfl)).rr).al
  -- the ways
  have key : ∀ r p (B : Mem), p + r = n → Fr (fun b _ => b = nx M) M3 B → (∀ s, s < 5 → mI B (nx M) s = nI (wy p s)) → WA X d (kc - 1) (ns - 5) m_X8_makeRoom 25 [some (vR a), some (vI (nI n)), some (vI (nI m)), some (vR (nx M)), some (vI (nI (p + 1))), none] [] B Q := by
    intro r
    induction r with
    | zero =>
      intro p B hp hF hB
      obtain rfl : p = n := by omega
      have hFB : Fal (fun b k => rmS a b k ∨ b = nx M) (rmT a) M1 B := hF3.trans ((hF.mono (fun b k q => Or.inr q)).rr).al
      have xB : nx B = nx M + 1 := by
        have e : B.2 = M3.2 := hF.2
        have e' : nx B = nx M3 := by unfold nx; rw [e]
        rw [e', e3]; exact x2
      have hSB : RoS B a := hFB.2.2.2.2 _ _ _ (hF1.2.2.2.2 _ _ _ hS)
      have hkB : isK B (nx M) 14 5 := hF.ext.1 _ _ _ (by rw [e3]; exact hk2)
      refine b_X8_makeRoom_25 hSB ⟨fun _ => ⟨fun q => absurd (by rw [na_lt (by omega) (by decide)] at q; omega) (id : False → False), fun _ => ⟨fun q => absurd (by rw [na_lt (by decide) (by omega)] at q; omega) (id : False → False), fun _ => ⟨5, hkB, na_in (by omega) (by decide), ?_⟩⟩⟩, fun q => absurd (by rw [na_lt (by omega) (by omega)]; omega) q⟩
      rw [na_ix (by omega), hB m (by omega)]
      refine ⟨fun q => absurd (by rw [na_le (by omega) (by decide)] at q; omega) (id : False → False), fun _ => ⟨na_in (by omega) (by decide), na_in (by omega) (by decide), by omega, by rw [na_ix (by omega)]; omega, fun N1 y1 N2 y2 => ?_⟩⟩
      rw [na_ix (by omega)] at y1
      rw [xB] at y2
      have z2 : mI N2 (nx M) m = nI (wy p m) := by
        rw [y2, mI_sR, y1]
        show (if nx M = B.2.2.2.length then 0 else mI B (nx M) m) = _
        have : B.2.2.2.length = nx M + 1 := xB
        rw [if_neg (by omega)]; exact hB m (by omega)
      rw [z2, na_ix (by omega)]
      refine ⟨na_in (by omega) (by decide), na_in (by omega) (by decide), by omega, by omega, fun N3 y3 N4 y4 => ?_⟩
      have xN1 : nx N1 = nx M + 2 := by rw [y1, nx_nw, xB]
      have xN2 : nx N2 = nx M + 2 := by rw [y2]; exact xN1
      rw [xN2] at y4
      have xN3 : nx N3 = nx M + 3 := by rw [y3, nx_nw, xN2]
      have hFN : Fal (fun b k => rmS a b k ∨ b = nx M) (rmT a) B N4 := by
        rw [y4, y3, y2, y1]
        exact ((Fal.nw.trans (Frr.sR ⟨rfl, by decide⟩).al).trans Fal.nw).trans (Frr.sR ⟨rfl, by decide⟩).al
      have hall := hFB.trans hFN
      have hA : Fal (rmS a) (rmT a) M N4 := by
        refine hF1.trans ⟨hall.1, fun b i hb hn2 => hall.2.1 b i hb (fun z => ?_), hall.2.2.1, hall.2.2.2.1, hall.2.2.2.2⟩
        rcases z with z | z
        · exact hn2 z
        · rw [x1] at hb; omega
      refine h N4 hA (by rw [y4]; exact xN3) ?_ ?_ ?_ ?_ ?_
      · rw [y4, mR_sR, if_neg (by omega), y3]
        show (if a = N2.2.2.2.length then 0 else mR N2 a 0) = _
        have : N2.2.2.2.length = nx M + 2 := xN2
        rw [if_neg (by omega), y2, mR_sR, if_pos ⟨rfl, rfl⟩]
      · rw [y4, mR_sR, if_pos ⟨rfl, rfl⟩]
      · rw [y4, y3]
        refine isK_nw_old ?_
        rw [y2, y1]
        have := isK_nw (M := B) (k := 14) (n0 := wy p m)
        rw [xB] at this
        exact this
      · rw [y4, y3]
        have := isK_nw (M := N2) (k := 14) (n0 := wy p m)
        rw [xN2] at this
        exact this
      · have e : mI N4 a 2 = mI B a 2 := by
          rw [y4, mI_sR, y3]
          show (if a = N2.2.2.2.length then 0 else mI N2 a 2) = _
          have l2 : N2.2.2.2.length = nx M + 2 := xN2
          rw [if_neg (by omega), y2, mI_sR, y1]
          show (if a = B.2.2.2.length then 0 else mI B a 2) = _
          have l1 : B.2.2.2.length = nx M + 1 := xB
          rw [if_neg (by omega)]
        rw [e, hF.at (by omega), e3, mI_sI_a (by omega), e2]
        show (if a = M1.2.2.2.length then 0 else mI M1 a 2) = _
        have l0 : M1.2.2.2.length = nx M := x1
        rw [if_neg (by omega)]; exact m2
    | succ r ih =>
      intro p B hp hF hB
      have hst : ∀ C, Fr (fun b _ => b = nx M) M3 C → RoS C a ∧ isK C (nx M) 14 5 := fun C hFC => by
        have hFB : Fal (fun b k => rmS a b k ∨ b = nx M) (rmT a) M1 C := hF3.trans ((hFC.mono (fun b k q => Or.inr q)).rr).al
        exact ⟨hFB.2.2.2.2 _ _ _ (hF1.2.2.2.2 _ _ _ hS), hFC.ext.1 _ _ _ (by rw [e3]; exact hk2)⟩
      have inner : ∀ j (C : Mem), j < 5 → Fr (fun b _ => b = nx M) M3 C → (∀ s, s < 5 → mI C (nx M) s = nI (if j < s then wy (p + 1) s else wy p s)) → WA X d (kc - 1) (ns - 5) m_X8_makeRoom 34 [some (vR a), some (vI (nI n)), some (vI (nI m)), some (vR (nx M)), some (vI (nI (p + 1))), some (vI (nI j))] [] C Q := by
        intro j
        induction j with
        | zero =>
          intro C hj hFC hC
          obtain ⟨s1, s2⟩ := hst C hFC
          refine b_X8_makeRoom_34 s1 ⟨fun _ => ⟨5, s2, na_in (by decide) (by decide), fun N e => ?_⟩, fun q => absurd (by decide) q⟩
          rw [show ix (nI 0) = 0 from rfl] at e
          rw [nI_add]
          refine ih (p + 1) N (by omega) (by rw [e]; exact hFC.trans (Fr.sI rfl)) (fun s hs => ?_)
          rw [e, mI_sI]
          by_cases hq : s = 0
          · subst hq; rw [if_pos ⟨rfl, rfl⟩]; rfl
          · rw [if_neg (fun z => hq z.2), hC s hs, if_pos (by omega)]
        | succ j jh =>
          intro C hj hFC hC
          obtain ⟨s1, s2⟩ := hst C hFC
          refine b_X8_makeRoom_34 s1 ⟨fun q => absurd (by rw [na_le (by omega) (by decide)] at q; omega) (id : False → False), fun _ => ⟨5, s2, na_in (by omega) (by decide), by rw [na_sub (by omega)]; exact na_in (by omega) (by decide), na_in (by omega) (by decide), fun N e => ?_⟩⟩
          rw [na_sub (by omega), na_ix (by omega), na_ix (by omega), hC (j + 1) hj, hC (j + 1 - 1) (by omega), if_neg (by omega), if_neg (by omega), pk_mul, nI_add] at e
          rw [na_dec]
          refine jh N (by omega) (by rw [e]; exact hFC.trans (Fr.sI rfl)) (fun s hs => ?_)
          rw [e, mI_sI]
          by_cases hq : s = j + 1
          · subst hq
            rw [if_pos ⟨rfl, rfl⟩, if_pos (by omega)]
            show _ = nI (if j + 1 = 0 then 0 else wy p (j + 1) * (j + 1) + wy p (j + 1 - 1))
            rw [if_neg (by omega)]
          · rw [if_neg (fun z => hq z.2), hC s hs]
            by_cases hlt : j + 1 < s
            · rw [if_pos hlt, if_pos (by omega)]
            · rw [if_neg hlt, if_neg (by omega)]
      obtain ⟨s1, s2⟩ := hst B hF
      refine b_X8_makeRoom_25 s1 ⟨fun q => absurd (by rw [na_lt (by omega) (by omega)] at q; omega) (id : False → False), fun _ => inner 4 B (by decide) hF (fun s hs => by rw [hB s hs, if_neg (by omega)])⟩
  refine key n 0 M3 (by omega) Fr.refl (fun s hs => ?_)
  rw [e3, mI_sI]
  by_cases hq : s = 0
  · subst hq; rw [if_pos ⟨rfl, rfl⟩]; rfl
  · rw [if_neg (fun z => hq z.2), e2, ← x1, mI_nw]
    unfold wy
    rw [if_neg hq]; rfl
end ROOM
