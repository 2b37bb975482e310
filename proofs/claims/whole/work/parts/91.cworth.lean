/-! THE CLASS: what seats are worth; whether one parish betters a cut -/
/-- worths as a sees them -/
def wcL (g w : Nat) : Int := if g = 2 then -(woL g w) else woL g w
theorem wcL_b (g w : Nat) : -1 ≤ wcL g w ∧ wcL g w ≤ 1 := by
  have := woL_b g w
  unfold wcL; split <;> omega
theorem and2p (a p : Nat) : a &&& 2 ^ p = if a.testBit p then 2 ^ p else 0 := by
  apply Nat.eq_of_testBit_eq
  intro q
  rw [Nat.testBit_and, Nat.testBit_two_pow]
  by_cases h : p = q
  · subst h
    cases ha : a.testBit p with
    | false => simp
    | true => simp [Nat.testBit_two_pow]
  · rw [decide_eq_false h, Bool.and_false]
    split
    · rw [Nat.testBit_two_pow, decide_eq_false h]
    · rw [Nat.zero_testBit]
theorem wth : ∀ g, g < 3 → ∀ w, w < 4 → (([1, -1, 0, 0, 1, 0, 0, 0, 0, -1, 0, 0] : List Int32).getD (4 * g + w) 0) = zI (wcL g w) := by decide +kernel
section WORTH
variable {X : Cx} {d a : Nat} {L : LandT} {M : Mem} {Q : Option AV → Mem → Prop}
theorem x_worths {kc ns : Nat} {l1 l2 v : Int32} (hS : LaS M a) (hi : vp_in l1 (mN M (a + 6))) (hj : vp_in (4 * l2 + mI M (a + 6) (ix l1)) 12) (hv : (([1, -1, 0, 0, 1, 0, 0, 0, 0, -1, 0, 0] : List Int32).getD (ix (4 * l2 + mI M (a + 6) (ix l1))) 0) = v) (h : WA X d kc ns m_X3_worth 38 [some (vR a), some (vI l1), some (vI l2)] [vI v] M Q) : WA X d kc ns m_X3_worth 24 [some (vR a), some (vI l1), some (vI l2)] [] M Q := by
  intro p e R s m args below meth c H locs cells slots ls E hL hR
  have h1 := h p e R s m args below meth c H locs cells slots ls E hL hR
  obtain ⟨w, hZ, hT⟩ := E.2.2.2.2.2.1.2.2.2.1
  have ha := isK_pos hR hS.o (by decide)
  have l0 : ls[0]? = some (.val (.ref (X.2.2.2 + a))) := by
    have := hL.2.2 0 (vR a) rfl
    rw [show cv X.2.2.2 (vR a) = .ref (X.2.2.2 + a) from rO_pos ha] at this
    exact this
  have k6 := hS.k9
  obtain ⟨h6, hw6⟩ := ws_arr hR k6 (by decide) (cE_int k6 (by decide) (by decide))
  have hw : (wsM X.2.2.2 X.2.2.1 M)[a - 1]? = some (X.2.2.2 + a, .inr (3, fv X.2.2.2 M a 3)) := by rw [ws_at ha (isK_lt hS.o), cE_obj hS.o (by decide)]
  have hl : Cond.fieldLink "TwoPencils$Land" 64 (nmC 3) (TC 3 9).2.1 (TC 3 9).2.2.1 ∈ lw_tbl := in_t1 (List.mem_of_getElem? (i := 188) rfl)
  have e9 : (fv X.2.2.2 M a 3)[9]? = some (.ref (X.2.2.2 + (a + 6))) := by
    rw [fv_at (show 9 < NC 3 by decide)]
    have : M.2.1 a 9 = a + 6 := hS.r9
    rw [if_pos (by rfl), this, rO_pos (by omega)]
  refine va_getsN E.1.1 E.1.2.1 hZ E.2.2.2.2.2.2 E.1.2.2.2.2.1 (wd E (in_t4 (List.mem_of_getElem? (i := 81) rfl)) args) (fun _ q => q) (tk K_X3_worth 14 rfl).1 ?_
  refine lv_iconst (v := 4) E.1.1 E.1.2.1 (tk K_X3_worth 15 rfl).1 rfl ?_
  refine lv_iload_n E.1.1 E.1.2.1 (tk K_X3_worth 16 rfl).1 rfl (hL.2.2 2 (vI l2) rfl) ?_
  refine lv_imul E.1.1 E.1.2.1 (tk K_X3_worth 17 rfl).1 ?_
  refine lv_aload_n E.1.1 E.1.2.1 (tk K_X3_worth 18 rfl).1 rfl l0 ?_
  refine va_get E.1.1 E.1.2.1 (wd_u E (by decide) args) (fun _ q => q) E.1.2.2.2.2.1 E.2.2.2.2.2.1.2.1 hR.2.2 (a - 1) hw (cls_at (by decide)) 9 (by decide) (wd E hl _) (fun _ q => q) e9 (tk K_X3_worth 19 rfl).1 ?_
  refine lv_iload_n E.1.1 E.1.2.1 (tk K_X3_worth 20 rfl).1 rfl (hL.2.2 1 (vI l1) rfl) ?_
  refine va_bald E.1.1 E.1.2.1 E.2.2.2.2.2.1.2.1 hR.2.2 (a + 6 - 1) 0 hw6 rfl hi (tk K_X3_worth 21 rfl).1 ?_
  refine lv_iadd E.1.1 E.1.2.1 (tk K_X3_worth 22 rfl).1 ?_
  refine va_ti E.1.1 E.1.2.1 hT E.2.2.2.2.2.2 hj (v := .int v) (by rw [← hv]; rfl) (tk K_X3_worth 23 rfl).1 ?_
  exact h1
theorem kp_worth {s g : Nat} (hR : laR M a L) (hs : s < 2 ^ L.1) (hg : g < 3) (h : Q (some (vI (zI (wcL g (wnL L s))))) M) : Cl X d 0 0 m_X3_worth [vR a, vI (nI s), vI (nI g)] M Q := by
  obtain ⟨hC, hF, hO⟩ := hR
  have h512 := p9 hO.1.2
  have hw := wnL_le L s
  have e6 : mI M (a + 6) (ix (nI s)) = nI (wnL L s) := by rw [na_ix (by omega)]; exact (hF s hs).2.1
  have e : 4 * nI g + nI (wnL L s) = nI (4 * g + wnL L s) := by rw [← nI_add, ← pk_mul]; rfl
  have hW : WA X d 0 0 m_X3_worth 24 [some (vR a), some (vI (nI s)), some (vI (nI g))] [] M Q := x_worths (v := zI (wcL g (wnL L s))) hC.1 (by rw [hC.2.1.2.1]; exact na_in hs (by omega)) (by rw [e6, e]; exact na_in (by omega) (by decide)) (by rw [e6, e, na_ix (by omega)]; exact wth g hg _ (by omega)) (x_ireturn (tk K_X3_worth 24 rfl) rfl rfl h)
  have hS := hC.1
  refine Cl.intro (k := 0) (by decide) rfl rfl ?_
  refine x_iload_n (tk K_X3_worth 0 rfl) rfl rfl ?_
  refine x_if_lt (t := 22) (tk K_X3_worth 1 rfl) rfl (fun q => absurd q (gd_lo (by omega))) (fun _ => ?_)
  refine x_iload_n (tk K_X3_worth 2 rfl) rfl rfl ?_
  refine x_aload_n (tk K_X3_worth 3 rfl) rfl rfl ?_
  refine x_getRc (tk K_X3_worth 4 rfl) f_X3_64 rfl (LaS.o hS) (LaS.r9 hS) ?_
  refine x_alen (tk K_X3_worth 5 rfl) (LaS.k9 hS) rfl ?_
  refine x_icmp_ge (t := 22) (tk K_X3_worth 6 rfl) rfl (fun q => absurd q (by rw [hC.2.1.2.1]; exact gd_hi hs (by omega))) (fun _ => ?_)
  refine x_iload_n (tk K_X3_worth 7 rfl) rfl rfl ?_
  refine x_if_lt (t := 22) (tk K_X3_worth 8 rfl) rfl (fun q => absurd q (gd_lo (by omega))) (fun _ => ?_)
  refine x_iload_n (tk K_X3_worth 9 rfl) rfl rfl ?_
  refine x_iconst (tk K_X3_worth 10 rfl) ic_3 ?_
  refine x_icmp_lt (t := 24) (tk K_X3_worth 11 rfl) rfl (fun _ => hW) (fun q => absurd ((na_lt (by omega) (by decide)).mpr hg) q)
theorem kp_worthOfAll {c k1 m g : Nat} {f : Nat → Nat} (hd : 1 ≤ d) (hR : laR M a L) (hc : isK M c 14 k1) (hm : m ≤ k1 ∧ k1 ≤ 8) (hf : ∀ s, s < m → f s < 2 ^ L.1 ∧ mI M c s = nI (f s)) (hg : g < 3) (h : Q (some (vI (zI (smZ m (fun s => wcL g (wnL L (f s))))))) M) : Cl X d 0 0 m_X3_worthOfAll [vR a, vR c, vI (nI m), vI (nI g)] M Q := by
  have hS := hR.1.1
  have key : ∀ r s, s + r = m → WA X d 0 0 m_X3_worthOfAll 6 [some (vR a), some (vR c), some (vI (nI m)), some (vI (nI g)), some (vI (zI (smZ s (fun s => wcL g (wnL L (f s)))))), some (vI (nI s))] [] M Q := by
    intro r
    induction r with
    | zero =>
      intro s hs
      obtain rfl : s = m := by omega
      exact b_X3_worthOfAll_6 hS hd ⟨fun _ => h, fun q => absurd (by rw [na_le (by omega) (by omega)]; exact Nat.le_refl _) q⟩
    | succ r ih =>
      intro s hs
      obtain ⟨f1, f2⟩ := hf s (by omega)
      refine b_X3_worthOfAll_6 hS hd ⟨fun q => absurd (by rw [na_le (by omega) (by omega)] at q; omega) (id : False → False), fun _ => ⟨k1, hc, na_in (by omega) (by omega), ?_⟩⟩
      rw [na_ix (by omega), f2]
      refine kp_worth hR f1 hg ⟨_, rfl, Ext.refl _, fun x2 e2 => ?_⟩
      rw [e2, zI_add, nI_add]
      exact ih (s + 1) (by omega)
  refine e_X3_worthOfAll (b_X3_worthOfAll_0 hS ?_)
  have := key m 0 (by omega)
  exact this
/-- a parish of x would better it in y -/
def cbP (L : LandT) (x y p : Nat) : Bool := x.testBit p && (lwB L (x ^^^ 2 ^ p) && lwB L (y ||| 2 ^ p)) && decide (wcL 0 (wnL L (x ^^^ 2 ^ p)) + wcL 0 (wnL L (y ||| 2 ^ p)) ≠ wcL 0 (wnL L x) + wcL 0 (wnL L y))
theorem kp_changes {x y : Nat} (hd : 1 ≤ d) (hR : laR M a L) (hx : x < 2 ^ L.1) (hy : y < 2 ^ L.1) (h1 : (∀ p, p < L.1 → cbP L x y p = false) → Q (some (vI (nI 0))) M) (h2 : ∀ p, p < L.1 → cbP L x y p = true → Q (some (vI (nI 1))) M) : Cl X d 0 0 m_X3_changesBalance [vR a, vI (nI x), vI (nI y)] M Q := by
  have hS := hR.1.1
  have hn := hR.2.2.1.2
  have h512 := p9 hn
  have k0 := hR.1.2.2.1.1
  have key : ∀ r p, p + r = L.1 → (∀ q, q < p → cbP L x y q = false) → WA X d 0 0 m_X3_changesBalance 17 [some (vR a), some (vI (nI x)), some (vI (nI y)), some (vI (zI (wcL 0 (wnL L x) + wcL 0 (wnL L y)))), some (vI (nI p)), none] [] M Q := by
    intro r
    induction r with
    | zero =>
      intro p hp hall
      obtain rfl : p = L.1 := by omega
      exact b_X3_changesBalance_17 hS hd ⟨fun _ => h1 hall, fun q => absurd (by rw [k0, na_le (by omega) (by omega)]; exact Nat.le_refl _) q⟩
    | succ r ih =>
      intro p hp hall
      have nxt : cbP L x y p = false → WA X d 0 0 m_X3_changesBalance 17 [some (vR a), some (vI (nI x)), some (vI (nI y)), some (vI (zI (wcL 0 (wnL L x) + wcL 0 (wnL L y)))), some (vI (nI p + nI 1)), none] [] M Q := fun hq => by
        rw [nI_add]
        refine ih (p + 1) (by omega) (fun q hq2 => ?_)
        by_cases z : q = p
        · subst z; exact hq
        · exact hall q (by omega)
      have lx := xor_lt hx (show p < L.1 by omega)
      have ly := or2_lt hy (show p < L.1 by omega)
      refine b_X3_changesBalance_17 hS hd ⟨fun q => absurd (by rw [k0, na_le (by omega) (by omega)] at q; omega) (id : False → False), fun _ x1 e1 => ?_⟩
      rw [na_1shl (by omega)] at e1
      have eb : (nI x &&& x1 = nI 0) ↔ x.testBit p = false := by
        rw [e1, na_and, na_eq (by have := Nat.and_le_left (n := x) (m := 2 ^ p); omega) (by decide), and2p]
        cases x.testBit p with
        | false => simp
        | true => simp
      rw [eb, e1, na_xor, na_or]
      refine ⟨fun q => nxt (by unfold cbP; rw [q]; rfl), fun q => ?_⟩
      have q : x.testBit p = true := by simpa using q
      refine kp_lawful hR lx ⟨_, rfl, Ext.refl _, ?_⟩
      rw [bI_0]
      refine ⟨fun q1 => nxt (by unfold cbP; rw [q1]; simp), fun q1 => ?_⟩
      have q1 : lwB L (x ^^^ 2 ^ p) = true := by simpa using q1
      refine kp_lawful hR ly ⟨_, rfl, Ext.refl _, ?_⟩
      rw [bI_0]
      refine ⟨fun q2 => nxt (by unfold cbP; rw [q2]; simp), fun q2 => ?_⟩
      have q2 : lwB L (y ||| 2 ^ p) = true := by simpa using q2
      refine kp_worth (g := 0) hR lx (by decide) ⟨_, rfl, Ext.refl _, kp_worth (g := 0) hR ly (by decide) ⟨_, rfl, Ext.refl _, ?_⟩⟩
      have b1 := wcL_b 0 (wnL L (x ^^^ 2 ^ p))
      have b2 := wcL_b 0 (wnL L (y ||| 2 ^ p))
      have b3 := wcL_b 0 (wnL L x)
      have b4 := wcL_b 0 (wnL L y)
      rw [zI_add, zI_eq (by omega) (by omega) (by omega) (by omega)]
      refine ⟨fun z => nxt (by unfold cbP; rw [decide_eq_false (fun w => w z)]; simp), fun z => h2 p (by omega) ?_⟩
      unfold cbP; rw [q, q1, q2, decide_eq_true z]; rfl
  refine e_X3_changesBalance (b_X3_changesBalance_0 hS hd (kp_worth (g := 0) hR hx (by decide) ⟨_, rfl, Ext.refl _, kp_worth (g := 0) hR hy (by decide) ⟨_, rfl, Ext.refl _, fun x3 e3 => ?_⟩⟩))
  rw [e3, zI_add]
  exact key L.1 0 (by omega) (fun q hq => by omega)
theorem kp_settled {c : Nat} {f : Nat → Nat} (hd : 2 ≤ d) (hR : laR M a L) (hc : isK M c 14 8) (hf : ∀ s, s < L.2.1 → f s < 2 ^ L.1 ∧ mI M c s = nI (f s))
    (h1 : (∀ i j, i < L.2.1 → j < L.2.1 → i ≠ j → ∀ p, p < L.1 → cbP L (f i) (f j) p = false) → Q (some (vI (nI 1))) M) (h2 : ∀ i j p, i < L.2.1 → j < L.2.1 → i ≠ j → p < L.1 → cbP L (f i) (f j) p = true → Q (some (vI (nI 0))) M) : Cl X d 0 0 m_X3_isSettled [vR a, vR c] M Q := by
  have hS := hR.1.1
  have hs4 := hR.2.2.2.1.2.1
  have k1 := hR.1.2.2.1.2.1
  have outer : ∀ r i, i + r = L.2.1 → (∀ i', i' < i → ∀ j, j < L.2.1 → i' ≠ j → ∀ p, p < L.1 → cbP L (f i') (f j) p = false) → WA X d 0 0 m_X3_isSettled 2 [some (vR a), some (vR c), some (vI (nI i)), none] [] M Q := by
    intro r
    induction r with
    | zero =>
      intro i hi hall
      obtain rfl : i = L.2.1 := by omega
      exact b_X3_isSettled_2 hS ⟨fun _ => h1 (fun i j a b c p hp => hall i a j b c p hp), fun q => absurd (by rw [k1, na_le (by omega) (by omega)]; exact Nat.le_refl _) q⟩
    | succ r ih =>
      intro i hi hall
      have inner : ∀ r2 j, j + r2 = L.2.1 → (∀ j', j' < j → i ≠ j' → ∀ p, p < L.1 → cbP L (f i) (f j') p = false) → WA X d 0 0 m_X3_isSettled 12 [some (vR a), some (vR c), some (vI (nI i)), some (vI (nI j))] [] M Q := by
        intro r2
        induction r2 with
        | zero =>
          intro j hj hal2
          obtain rfl : j = L.2.1 := by omega
          refine b_X3_isSettled_12 hS (by omega) ⟨fun _ => ?_, fun q => absurd (by rw [k1, na_le (by omega) (by omega)]; exact Nat.le_refl _) q⟩
          rw [nI_add]
          refine ih (i + 1) (by omega) (fun i' hi' j hj2 hne p hp => ?_)
          by_cases z : i' = i
          · subst z; exact hal2 j hj2 hne p hp
          · exact hall i' (by omega) j hj2 hne p hp
        | succ r2 ih2 =>
          intro j hj hal2
          have nxt : (i ≠ j → ∀ p, p < L.1 → cbP L (f i) (f j) p = false) → WA X d 0 0 m_X3_isSettled 12 [some (vR a), some (vR c), some (vI (nI i)), some (vI (nI j + nI 1))] [] M Q := fun hq => by
            rw [nI_add]
            refine ih2 (j + 1) (by omega) (fun j' hj' hne => ?_)
            by_cases z : j' = j
            · subst z; exact hq hne
            · exact hal2 j' (by omega) hne
          refine b_X3_isSettled_12 hS (by omega) ⟨fun q => absurd (by rw [k1, na_le (by omega) (by omega)] at q; omega) (id : False → False), fun _ => ?_⟩
          rw [na_eq (by omega) (by omega)]
          refine ⟨fun q => nxt (fun z => absurd q z), fun q => ⟨8, hc, na_in (by omega) (by omega), na_in (by omega) (by omega), ?_⟩⟩
          obtain ⟨f1, f2⟩ := hf i (by omega)
          obtain ⟨f3, f4⟩ := hf j (by omega)
          rw [na_ix (by omega), na_ix (by omega), f2, f4]
          refine kp_changes (by omega) hR f1 f3 (fun hno => ⟨_, rfl, Ext.refl _, fun _ => nxt (fun _ => hno), fun z => absurd rfl z⟩) (fun p hp hcb => ⟨_, rfl, Ext.refl _, fun z => absurd z (by decide), fun _ => h2 i j p (by omega) (by omega) q hp hcb⟩)
      exact b_X3_isSettled_2 hS ⟨fun q => absurd (by rw [k1, na_le (by omega) (by omega)] at q; omega) (id : False → False), fun _ => inner L.2.1 0 (by omega) (fun j hj => by omega)⟩
  exact e_X3_isSettled (b_X3_isSettled_0 hS (outer L.2.1 0 (by omega) (fun i hi => by omega)))
end WORTH
/-- so it is settled in the document's words -/
theorem bl_mv {L : LandT} {c p t : Nat} (hO : LdOK L) (hl : icN L c (whL L) L.2.1) (hp : p < L.1) (ht : t < L.2.1) (hne : t ≠ dgB 2 L.1 c p) (hP : PM (mvF L c p t) (seL L (mvL L c p t)) L.2.1) :
    blL L (mvL L c p t) - blL L c = wcL 0 (wnL L (seL L c (dgB 2 L.1 c p) ^^^ 2 ^ p)) + wcL 0 (wnL L (seL L c t ||| 2 ^ p)) - (wcL 0 (wnL L (seL L c (dgB 2 L.1 c p))) + wcL 0 (wnL L (seL L c t))) := by
  have hwh : (whL L).testBit p = true := by rw [tb_wh, decide_eq_true hp]
  have hdm : dgB 2 L.1 c p < L.2.1 := nuF_lt hl.1 hp hwh
  have key : ∀ k, wiL L (mvL L c p t) k + ((if wnL L (seL L c (dgB 2 L.1 c p)) = k then 1 else 0) + (if wnL L (seL L c t) = k then 1 else 0)) = wiL L c k + ((if wnL L (seL L c (dgB 2 L.1 c p) ^^^ 2 ^ p) = k then 1 else 0) + (if wnL L (seL L c t ||| 2 ^ p) = k then 1 else 0)) := fun k => by
    have e1 : wiL L (mvL L c p t) k = smF L.2.1 (fun s => if wnL L (mvF L c p t s) = k then 1 else 0) := smF_PM (w := fun x => if wnL L x = k then 1 else 0) hP
    have u1 := smF_up (u := fun s => if wnL L (seL L c s) = k then 1 else 0) (a := t) (x := if wnL L (seL L c t ||| 2 ^ p) = k then 1 else 0) L.2.1
    have u2 := smF_up (u := fun s => if s = t then (if wnL L (seL L c t ||| 2 ^ p) = k then 1 else 0) else (if wnL L (seL L c s) = k then 1 else 0)) (a := dgB 2 L.1 c p) (x := if wnL L (seL L c (dgB 2 L.1 c p) ^^^ 2 ^ p) = k then 1 else 0) L.2.1
    rw [if_pos ht, if_pos ht] at u1
    rw [if_pos hdm, if_pos hdm] at u2
    rw [if_neg (show ¬ dgB 2 L.1 c p = t from fun z => hne z.symm)] at u2
    have e2 : smF L.2.1 (fun s => if wnL L (mvF L c p t s) = k then 1 else 0) = smF L.2.1 (fun s => if s = dgB 2 L.1 c p then (if wnL L (seL L c (dgB 2 L.1 c p) ^^^ 2 ^ p) = k then 1 else 0) else if s = t then (if wnL L (seL L c t ||| 2 ^ p) = k then 1 else 0) else (if wnL L (seL L c s) = k then 1 else 0)) := smF_lt (fun s hs => by
      unfold mvF
      by_cases z1 : s = dgB 2 L.1 c p
      · rw [if_pos z1, if_pos z1, z1]
      · rw [if_neg z1, if_neg z1]
        by_cases z2 : s = t
        · rw [if_pos z2, if_pos z2, z2]
        · rw [if_neg z2, if_neg z2])
    have e3 : wiL L c k = smF L.2.1 (fun s => if wnL L (seL L c s) = k then 1 else 0) := rfl
    rw [e1, e2, e3]
    omega
  have k0 := key 0
  have k1 := key 1
  have hw : ∀ w, wcL 0 w = ((if w = 0 then 1 else 0 : Nat) : Int) - ((if w = 1 then 1 else 0 : Nat) : Int) := fun w => by
    unfold wcL woL
    rw [if_neg (by decide), if_pos rfl]
    by_cases z0 : w = 0
    · subst z0; simp
    · rw [if_neg z0, if_neg z0]
      by_cases z1 : w = 1
      · subst z1; simp
      · rw [if_neg z1, if_neg z1]; rfl
  unfold blL
  rw [hw, hw, hw, hw]
  omega
theorem seB_iff {L : LandT} {c : Nat} (hO : LdOK L) (hl : icN L c (whL L) L.2.1) (hc : c < 4 ^ L.1) : seB L c = true ↔ ∀ i j, i < L.2.1 → j < L.2.1 → i ≠ j → ∀ p, p < L.1 → cbP L (seL L c i) (seL L c j) p = false := by
  have eq : ∀ p t, p < L.1 → t < L.2.1 → t ≠ dgB 2 L.1 c p → seS L c p t = cbP L (seL L c (dgB 2 L.1 c p)) (seL L c t) p := fun p t hp ht hne => by
    obtain ⟨m1, m2⟩ := mv_ok hO hl hp ht hne
    unfold seS cbP
    rw [seL_tb hp, decide_eq_true rfl, Bool.true_and]
    cases hb : lwB L (seL L c (dgB 2 L.1 c p) ^^^ 2 ^ p) && lwB L (seL L c t ||| 2 ^ p) with
    | false =>
      rw [decide_eq_false (m2 hb)]; simp
    | true =>
      obtain ⟨a1, a2, a3, a4⟩ := m1 hb
      have := bl_mv hO hl hp ht hne a3
      rw [decide_eq_true a1, decide_eq_true a2, Bool.true_and, Bool.true_and, Bool.true_and]
      exact decide_eq_decide.mpr ⟨fun z w => z (by omega), fun z w => z (by omega)⟩
  unfold seB
  rw [List.all_eq_true]
  constructor
  · intro h i j hi hj hne p hp
    by_cases hb : dgB 2 L.1 c p = i
    · have h1 := h p (List.mem_range.mpr hp)
      rw [List.all_eq_true] at h1
      have h2 := h1 j (List.mem_range.mpr hj)
      rw [eq p j hp hj (by omega), hb] at h2
      simpa using h2
    · unfold cbP
      rw [seL_tb hp, decide_eq_false hb]; rfl
  · intro h p hp
    have hp := List.mem_range.mp hp
    have hdm : dgB 2 L.1 c p < L.2.1 := nuF_lt hl.1 hp (by rw [tb_wh, decide_eq_true hp])
    rw [List.all_eq_true]
    intro t ht
    have ht := List.mem_range.mp ht
    by_cases hne : t = dgB 2 L.1 c p
    · unfold seS
      rw [hne, mv_id hl hc]; simp
    · rw [eq p t hp ht hne, h _ _ hdm ht (fun z => hne z.symm) p hp]; rfl
