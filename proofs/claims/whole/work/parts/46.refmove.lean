/-! every cut that is told in order is listed -/
theorem dgB_pre {b n x p r q : Nat} (hn : p + r = n) (hq : q < p) : dgB b n x q = dgB b p (x / (2 ^ b) ^ r) q := by
  unfold dgB
  have e1 : b * (n - 1 - q) = b * r + b * (p - 1 - q) := by
    rw [show n - 1 - q = r + (p - 1 - q) by omega, Nat.mul_add]
  rw [e1, Nat.shiftRight_add, Nat.shiftRight_eq_div_pow x, Nat.pow_mul]
theorem nuF_mono {b n c o p : Nat} : ∀ {k u m : Nat}, nuF b n c o p = some u → nuF b n c o (p + k) = some m → u ≤ m
  | 0, u, m, h1, h2 => by rw [Nat.add_zero, h1] at h2; cases h2; exact Nat.le_refl _
  | k + 1, u, m, h1, h2 => by
    have h3 : nuF b n c o ((p + k) + 1) = some m := h2
    unfold nuF at h3
    cases hc : nuF b n c o (p + k) with
    | none => rw [hc] at h3; cases h3
    | some y =>
      have := nuF_mono h1 hc
      rw [hc] at h3
      dsimp only at h3
      split at h3
      · split at h3
        · cases h3
        · cases h3; split <;> omega
      · split at h3
        · cases h3; exact this
        · cases h3
theorem enB_all {b n o m x : Nat} (hx : nuF b n x o n = some m) : ∀ r p u, p + r = n → nuF b n x o p = some u → x ∈ enB b n o m r u (x / (2 ^ b) ^ r)
  | 0, p, u, hp, hu => by
    obtain rfl : p = n := by omega
    rw [hu] at hx
    cases hx
    unfold enB
    rw [if_pos rfl]
    simp
  | r + 1, p, u, hp, hu => by
    have hop : n - (r + 1) = p := by omega
    have h2 := Nat.two_pow_pos b
    -- the next digit
    have hdig : x / (2 ^ b) ^ r = 2 ^ b * (x / (2 ^ b) ^ (r + 1)) + dgB b n x p := by
      have e2 : dgB b n x p = (x / (2 ^ b) ^ r) % 2 ^ b := by
        unfold dgB
        rw [show n - 1 - p = r by omega, Nat.shiftRight_eq_div_pow, Nat.pow_mul]
      rw [e2, Nat.pow_succ, ← Nat.div_div_eq_div_mul, Nat.div_add_mod]
    have hd := dgB_lt b n x p
    have hne : nuF b n x o (p + 1) ≠ none := fun z => by
      have := nuF_none_le z (show p + 1 ≤ n by omega)
      rw [hx] at this; cases this
    obtain ⟨u', hu'⟩ := Option.ne_none_iff_exists'.mp hne
    have hmono : u' ≤ m := by
      have e : (p + 1) + r = n := by omega
      rw [← e] at hx
      have hx' : nuF b ((p + 1) + r) x o ((p + 1) + r) = some m := hx
      rw [e] at hx'
      exact nuF_mono (k := r) hu' (by rw [e]; exact hx')
    have hrec := enB_all hx r (p + 1) u' (by omega) hu'
    rw [hdig] at hrec
    unfold nuF at hu'
    rw [hu] at hu'
    dsimp only at hu'
    unfold enB
    rw [hop]
    split at hu'
    · rename_i ho
      rw [if_pos ho]
      split at hu'
      · cases hu'
      · rename_i hle
        cases hu'
        have hmax : (if dgB b n x p = u then u + 1 else u) = max u (dgB b n x p + 1) := by split <;> omega
        rw [hmax] at hrec hmono
        exact mem_flatR.mpr ⟨dgB b n x p, by omega, by omega, hrec⟩
    · rename_i ho
      rw [if_neg ho]
      split at hu'
      · rename_i h0
        cases hu'
        rw [h0, Nat.add_zero] at hrec
        exact hrec
      · cases hu'
theorem lsL_all {L : LandT} {o m c : Nat} (hc : c < 4 ^ L.1) (h : icN L c o m) : c ∈ lsL L o m := by
  unfold lsL
  rw [List.mem_filter]
  refine ⟨?_, decide_eq_true h.2⟩
  have := enB_all (b := 2) h.1 L.1 0 0 (by omega) rfl
  have e : c / (2 ^ 2) ^ L.1 = 0 := Nat.div_eq_of_lt hc
  rw [e] at this
  exact this
theorem icB_some {L : LandT} {x : Int32} {o m : Nat} (hn : L.1 ≤ 9) (h : icB L x o m = true) : ∃ c, x = nI c ∧ c < 4 ^ L.1 ∧ icN L c o m ∧ x.toInt.toNat = c := by
  unfold icB at h
  have h4 := p4 hn
  cases hc : inN x (4 ^ L.1) with
  | none => rw [hc] at h; cases h
  | some c =>
    rw [hc] at h
    obtain ⟨e1, e2⟩ := inN_some (by omega) hc
    refine ⟨c, e1, e2, of_decide_eq_true h, ?_⟩
    rw [e1, nI_toInt (by omega)]; rfl
theorem ihB_some {L : LandT} {x : Int32} {o m : Nat} (hn : L.1 ≤ 9) (h : ihB L x o m = true) : ∃ c, x = nI c ∧ c < 8 ^ L.1 ∧ nuF 3 L.1 c o L.1 = some (2 * m) ∧ okH L o (2 * m) c = true := by
  unfold ihB at h
  have h8 := p8 hn
  cases hc : inN x (8 ^ L.1) with
  | none => rw [hc] at h; cases h
  | some c =>
    rw [hc] at h
    obtain ⟨e1, e2⟩ := inN_some (by omega) hc
    simp only [Bool.and_eq_true, decide_eq_true_eq] at h
    exact ⟨c, e1, e2, h.1, h.2⟩
section GAME
variable {X : Cx} {l p : Nat} {L : LandT} {P : ProT} {ot : Bool}
theorem sp_keep {d v o m : Nat} {ks : List Nat} {M : Mem} {Q : Option AV → Mem → Prop} (hS : RfS M) (h26 : mI M 75 26 = nI o) (h27 : mI M 75 27 = nI m) (h32 : mI M 75 32 = nI ks.length) (hks : stL M 92 0 ks) (hk : ks.length < 4) (hm : 1 ≤ m)
    (h : ∀ B : Mem, Fr gmS M B → mI B 75 26 = nI (dif o v) → mI B 75 27 = nI (m - 1) → mI B 75 32 = nI (ks ++ [v]).length → stL B 92 0 (ks ++ [v]) → (∀ k, k ≠ 26 → k ≠ 27 → k ≠ 32 → mI B 75 k = mI M 75 k) → Q none B) : Cl X d 0 0 m_X11_keep [vR 75, vI (nI v)] M Q := by
  refine e_X11_keep (b_X11_keep_0 hS ⟨by rw [h32]; exact na_in hk (by omega), fun M1 e1 M2 e2 M3 e3 M4 e4 => ?_⟩)
  rw [h32, na_ix (by omega)] at e1
  refine h M4 ?_ ?_ ?_ ?_ ?_ (fun k a b c => ?_)
  · rw [e4, e3, e2, e1]
    exact (((Fr.sI (Or.inl rfl)).trans (Fr.sI (Or.inr ⟨rfl, by omega, by omega⟩))).trans (Fr.sI (Or.inr ⟨rfl, by omega, by omega⟩))).trans (Fr.sI (Or.inr ⟨rfl, by omega, by omega⟩))
  · rw [e4, mI_sI_i (by decide), e3, mI_sI_eq, e2, mI_sI_i (by decide), e1, mI_sI_a (by decide), h26, na_dif]
  · rw [e4, mI_sI_eq, e3, mI_sI_i (by decide), e2, mI_sI_i (by decide), e1, mI_sI_a (by decide), h27, na_sub hm]
  · rw [e4, mI_sI_i (by decide), e3, mI_sI_i (by decide), e2, mI_sI_eq, e1, mI_sI_a (by decide), h32, nI_add]; simp
  · intro k x hx
    rw [e4, mI_sI_a (by decide), e3, mI_sI_a (by decide), e2, mI_sI_a (by decide), e1]
    have := stL_snoc (x := v) hks k x hx
    rw [Nat.zero_add] at this
    rw [Nat.zero_add] at this ⊢
    exact this
  · rw [e4, mI_sI_i b, e3, mI_sI_i a, e2, mI_sI_i c, e1, mI_sI_a (by decide)]
theorem sp_keepAll {d c : Nat} {G : GamT} {M : Mem} {Q : Option AV → Mem → Prop} (hd : 3 ≤ d) (hH : rH M l L) (hG : rGS M p ot G) (hc : c < 2 ^ 31) (ho : gOp G < 2 ^ 31) (hk : (gKe G).length + gLe G ≤ 4)
    (h : ∀ B : Mem, Fr gmS M B → rH B l L → rGS B p ot (kpG L G c) → Q none B) : Cl X d 0 0 m_X11_keepAll [vR 75, vI (nI c)] M Q := by
  obtain ⟨g1, g2, g3, g4, g5, g6, g7, g8, g9, g10⟩ := hG
  have key : ∀ r s (B : Mem), s + r = gLe G → Fr gmS M B → mI B 75 26 = nI ((List.range s).foldl (fun o s => dif o (sOB 2 L.1 c (gOp G) s)) (gOp G)) → mI B 75 27 = nI (gLe G - s) → mI B 75 32 = nI (gKe G ++ (List.range s).map (sOB 2 L.1 c (gOp G))).length → stL B 92 0 (gKe G ++ (List.range s).map (sOB 2 L.1 c (gOp G))) → (∀ k, k ≠ 26 → k ≠ 27 → k ≠ 32 → mI B 75 k = mI M 75 k) →
      WA X d 0 0 m_X11_keepAll 13 [some (vR 75), some (vI (nI c)), some (vI (nI (gOp G))), some (vI (nI (gLe G))), some (vI (nI s))] [] B Q := by
    intro r
    induction r with
    | zero =>
      intro s B hs hF h26 h27 h32 h77 hoth
      obtain rfl : s = gLe G := by omega
      have hHB := hH.gm hF
      refine b_X11_keepAll_13 hHB.1 (by omega) ⟨fun _ M1 e1 => ?_, fun q => absurd (by rw [na_le (by omega) (by omega)]; omega) q⟩
      have hF1 : Fr gmS B M1 := by rw [e1]; exact Fr.sI (Or.inr ⟨rfl, by omega, by omega⟩)
      refine h M1 (hF.trans hF1) (hHB.gm hF1) ⟨?_, ?_, ?_, ?_, ?_, ?_, ?_, ?_, fun q => ?_, fun q => ?_⟩
      · rw [e1, mI_sI_i (by decide), hoth _ (by decide) (by decide) (by decide)]; exact g1
      · rw [e1, mI_sI_i (by decide), hoth _ (by decide) (by decide) (by decide)]; exact g2
      · rw [e1, mI_sI_i (by decide)]; exact h26
      · rw [e1, mI_sI_i (by decide), h27, Nat.sub_self]; rfl
      · rw [e1, mI_sI_i (by decide), hoth _ (by decide) (by decide) (by decide)]; exact g5
      · rw [e1, mI_sI_eq]; rfl
      · rw [e1, mI_sI_i (by decide)]; exact h32
      · intro k x hx
        rw [e1, mI_sI_a (by decide)]; exact h77 k x hx
      · exact absurd q (show ¬ (8 = 1 ∨ 8 = 4 ∨ 8 = 6 ∨ 8 = 7) by decide)
      · exact absurd q (show ¬ 8 = 7 by decide)
    | succ r ih =>
      intro s B hs hF h26 h27 h32 h77 hoth
      have hHB := hH.gm hF
      have hlen : (gKe G ++ (List.range s).map (sOB 2 L.1 c (gOp G))).length = (gKe G).length + s := by simp
      refine b_X11_keepAll_13 hHB.1 (by omega) ⟨fun q => ?_, fun _ => sp_seatOf (by omega) hHB hc ho (by omega) ⟨_, rfl, Ext.refl _, sp_keep hHB.1 h26 h27 h32 h77 (by omega) (by omega) (fun B2 hF2 a1 a2 a3 a4 a5 => ⟨rfl, hF2.ext, ?_⟩)⟩⟩
      · rw [na_le (by omega) (by omega)] at q; omega
      · rw [nI_add]
        refine ih (s + 1) B2 (by omega) (hF.trans hF2) ?_ ?_ ?_ ?_ (fun k x1 x2 x3 => (a5 k x1 x2 x3).trans (hoth k x1 x2 x3))
        · rw [a1, List.range_succ, List.foldl_append]; rfl
        · rw [a2]; congr 1
        · rw [a3]; congr 1
          simp [List.range_succ]
        · rw [List.range_succ, List.map_append, ← List.append_assoc]
          exact a4
  refine e_X11_keepAll (b_X11_keepAll_0 hH.1 (fun x1 e1 x2 e2 => ?_))
  rw [e1, e2, g3, g4]
  exact key (gLe G) 0 M (by omega) Fr.refl (by simpa using g3) (by simpa using g4) (by simpa using g7) (by simpa using g8) (fun k _ _ _ => rfl)
theorem sp_isAlone {d o m : Nat} {M : Mem} {Q : Option AV → Mem → Prop} (hd : 12 ≤ d) (hH : rH M l L) (h26 : mI M 75 26 = nI o) (h27 : mI M 75 27 = nI m) (ho : o < 2 ^ L.1) (hm : m ≤ 4)
    (h : ∀ B : Mem, Fr ttS M B → Q (some (vI (bI (decide ((lsL L o m).length = 1))))) B) : Cl X d 0 0 m_X11_isAlone [vR 75] M Q := by
  have hlen := lsL_len (L := L) (o := o) hH.b.2.1 hm
  refine e_X11_isAlone (b_X11_isAlone_0 hH.1 (by omega) ?_)
  rw [h26, h27]
  refine sp_list (by omega) (by omega) ho hm hH (fun B hF _ => ⟨_, rfl, hF.ext, fun q => ?_, fun q => ?_⟩)
  · rw [na_eq (by omega) (by omega)] at q
    have h9 := h B (lfS_tt hF)
    rw [decide_eq_false q] at h9; exact h9
  · rw [na_eq (by omega) (by omega)] at q
    have h9 := h B (lfS_tt hF)
    rw [decide_eq_true q] at h9; exact h9
theorem sp_isLast {d o m c : Nat} {M : Mem} {Q : Option AV → Mem → Prop} (hd : 12 ≤ d) (hH : rH M l L) (h26 : mI M 75 26 = nI o) (h27 : mI M 75 27 = nI m) (ho : o < 2 ^ L.1) (hm : m ≤ 4) (hc : c < 4 ^ L.1) (hic : icN L c o m)
    (h : ∀ B : Mem, Fr ssS M B → Q (some (vI (bI (decide ((lsL L o m).getD ((lsL L o m).length - 1) 0 = c))))) B) : Cl X d 0 0 m_X11_isLast [vR 75, vI (nI c)] M Q := by
  have hb := hH.b
  have h4 := p4 hb.2.1
  have hlen := lsL_len (L := L) (o := o) hb.2.1 hm
  have hmem := lsL_all hc hic
  have hpos : 0 < (lsL L o m).length := List.length_pos_of_mem hmem
  have hlast : (lsL L o m)[(lsL L o m).length - 1]? = some ((lsL L o m).getD ((lsL L o m).length - 1) 0) := by
    simp only [List.getD]
    rw [List.getElem?_eq_getElem (by omega)]; rfl
  have hlm := (lsL_ok hm (List.mem_of_getElem? hlast)).1
  refine e_X11_isLast (b_X11_isLast_0 hH.1 (by omega) ?_)
  rw [h26, h27]
  refine sp_list (by omega) (by omega) ho hm hH (fun B hF hst => ⟨_, rfl, hF.ext, ?_, ?_⟩)
  · rw [show mI B 75 27 = nI m from (hF.at (by unfold lfS; omega)).trans h27, pk_mul, nI_add, na_sub (by omega)]; exact na_in (by omega) (by omega)
  · rw [show mI B 75 27 = nI m from (hF.at (by unfold lfS; omega)).trans h27, pk_mul, nI_add, na_sub (by omega), na_ix (by omega)]
    have e := hst _ _ hlast
    rw [show 8000 * m + (lsL L o m).length - 1 = 8000 * m + ((lsL L o m).length - 1) by omega, e]
    have h9 := h B (lfS_ss hF)
    refine ⟨fun q => ?_, fun q => ?_⟩
    · rw [na_eq (by omega) (by omega)] at q
      rw [decide_eq_false q] at h9; exact h9
    · rw [na_eq (by omega) (by omega)] at q
      rw [decide_eq_true q] at h9; exact h9
theorem dif_0 (a : Nat) : dif a a = 0 := by unfold dif; rw [Nat.and_self, Nat.xor_self]
theorem sp_joins {d c : Nat} {G : GamT} {M : Mem} {Q : Option AV → Mem → Prop} (hd : 3 ≤ d) (hH : rH M l L) (h26 : mI M 75 26 = nI (gOp G)) (h27 : mI M 75 27 = nI (gLe G)) (h30 : mI M 75 30 = nI (gDr G)) (ho : gOp G < 2 ^ 31) (hm : gLe G ≤ 4) (hdr : gDr G < 2 ^ 31) (hc : c < 2 ^ 31)
    (h : Q (some (vI (bI (joB L G c)))) M) : Cl X d 0 0 m_X11_joins [vR 75, vI (nI c)] M Q := by
  have hb := hH.b
  have h512 := p9 hb.2.1
  have outer : ∀ r s, s + r = gLe G → (∀ s', s' < s → (∀ h, h < 2 * gLe G → (sOB 3 L.1 (gDr G) (gOp G) h &&& sOB 2 L.1 c (gOp G) s' = 0 ∨ dif (sOB 3 L.1 (gDr G) (gOp G) h) (sOB 2 L.1 c (gOp G) s') = 0)) ∧ smF (2 * gLe G) (fun h => if sOB 3 L.1 (gDr G) (gOp G) h &&& sOB 2 L.1 c (gOp G) s' = 0 then 0 else 1) = 2) →
      WA X d 0 0 m_X11_joins 2 [some (vR 75), some (vI (nI c)), some (vI (nI s)), none, none, none, none] [] M Q := by
    intro r
    induction r with
    | zero =>
      intro s hs hall
      obtain rfl : s = gLe G := by omega
      unfold joB at h
      rw [decide_eq_true hall] at h
      exact b_X11_joins_2 hH.1 (by omega) ⟨fun _ => h, fun q => absurd (by rw [h27, na_le (by omega) (by omega)]; omega) q⟩
    | succ r ih =>
      intro s hs hall
      have hsl := sOB_lt 2 L.1 c (gOp G) s
      have inner : ∀ j k, k + j = 2 * gLe G → (∀ h, h < k → (sOB 3 L.1 (gDr G) (gOp G) h &&& sOB 2 L.1 c (gOp G) s = 0 ∨ dif (sOB 3 L.1 (gDr G) (gOp G) h) (sOB 2 L.1 c (gOp G) s) = 0)) →
          WA X d 0 0 m_X11_joins 27 [some (vR 75), some (vI (nI c)), some (vI (nI s)), some (vI (nI (sOB 2 L.1 c (gOp G) s))), some (vI (nI (smF k (fun h => if sOB 3 L.1 (gDr G) (gOp G) h &&& sOB 2 L.1 c (gOp G) s = 0 then 0 else 1)))), some (vI (nI k)), none] [] M Q := by
        intro j
        induction j with
        | zero =>
          intro k hk hall2
          obtain rfl : k = 2 * gLe G := by omega
          have hle := smF_le (f := fun h => if sOB 3 L.1 (gDr G) (gOp G) h &&& sOB 2 L.1 c (gOp G) s = 0 then 0 else 1) (b := 1) (fun p => by split <;> omega) (2 * gLe G)
          refine b_X11_joins_27 hH.1 (by omega) ⟨fun _ => ⟨fun q => ?_, fun q => ?_⟩, fun q => absurd (by rw [h27, pk_mul, na_le (by omega) (by omega)]; omega) q⟩
          · rw [na_eq (by omega) (by omega)] at q
            rw [nI_add]
            refine ih (s + 1) (by omega) (fun s' hs' => ?_)
            rcases (show s' < s ∨ s' = s by omega) with q9 | q9
            · exact hall s' q9
            · subst q9; exact ⟨hall2, q⟩
          · rw [na_eq (by omega) (by omega)] at q
            unfold joB at h
            rw [decide_eq_false (fun z => q (z s (by omega)).2)] at h
            exact h
        | succ j jh =>
          intro k hk hall2
          have hhl := sOB_lt 3 L.1 (gDr G) (gOp G) k
          have hdl : dif (sOB 3 L.1 (gDr G) (gOp G) k) (sOB 2 L.1 c (gOp G) s) < 2 ^ 31 := by
            have := Nat.xor_lt_two_pow (n := 31) (show sOB 3 L.1 (gDr G) (gOp G) k < 2 ^ 31 by omega) (show sOB 3 L.1 (gDr G) (gOp G) k &&& sOB 2 L.1 c (gOp G) s < 2 ^ 31 from Nat.lt_of_le_of_lt Nat.and_le_left (by omega))
            exact this
          have hal : sOB 3 L.1 (gDr G) (gOp G) k &&& sOB 2 L.1 c (gOp G) s < 2 ^ 31 := Nat.lt_of_le_of_lt Nat.and_le_left (by omega)
          have hn := jh (k + 1) (by omega)
          have ext : (sOB 3 L.1 (gDr G) (gOp G) k &&& sOB 2 L.1 c (gOp G) s = 0 ∨ dif (sOB 3 L.1 (gDr G) (gOp G) k) (sOB 2 L.1 c (gOp G) s) = 0) → (∀ h, h < k + 1 → (sOB 3 L.1 (gDr G) (gOp G) h &&& sOB 2 L.1 c (gOp G) s = 0 ∨ dif (sOB 3 L.1 (gDr G) (gOp G) h) (sOB 2 L.1 c (gOp G) s) = 0)) := fun z h hh => by
            rcases (show h < k ∨ h = k by omega) with q9 | q9
            · exact hall2 h q9
            · rw [q9]; exact z
          have h72 : (sOB 3 L.1 (gDr G) (gOp G) k &&& sOB 2 L.1 c (gOp G) s = 0 ∨ dif (sOB 3 L.1 (gDr G) (gOp G) k) (sOB 2 L.1 c (gOp G) s) = 0) → WA X d 0 0 m_X11_joins 72 [some (vR 75), some (vI (nI c)), some (vI (nI s)), some (vI (nI (sOB 2 L.1 c (gOp G) s))), some (vI (nI (smF k (fun h => if sOB 3 L.1 (gDr G) (gOp G) h &&& sOB 2 L.1 c (gOp G) s = 0 then 0 else 1)))), some (vI (nI k)), some (vI (nI (sOB 3 L.1 (gDr G) (gOp G) k)))] [] M Q := by
            intro z
            have hn := hn (ext z)
            refine b_X11_joins_72 hH.1 ⟨fun q x1 e1 => ?_, fun q x2 e2 => ?_⟩
            · rw [na_and, na_eq hal (by omega)] at q
              simp only [smF, if_pos q, Nat.add_zero] at hn
              rw [e1, add0, nI_add]; exact hn
            · rw [na_and, na_eq hal (by omega)] at q
              simp only [smF, if_neg q] at hn
              rw [e2, nI_add, nI_add]; exact hn
          refine b_X11_joins_27 hH.1 (by omega) ⟨fun q => ?_, fun _ => ?_⟩
          · rw [h27, pk_mul, na_le (by omega) (by omega)] at q; omega
          rw [h30, h26]
          refine sp_halfOf (by omega) hH hdr ho (by omega) ⟨_, rfl, Ext.refl _, fun q => ?_, fun q => ⟨fun q2 => ?_, fun q2 => ?_⟩⟩
          · rw [na_and, na_eq hal (by omega)] at q
            exact h72 (Or.inl q)
          · rw [na_dif, na_eq hdl (by omega)] at q2
            exact h72 (Or.inr q2)
          · rw [na_and, na_eq hal (by omega)] at q
            rw [na_dif, na_eq hdl (by omega)] at q2
            unfold joB at h
            rw [decide_eq_false (fun z => by
              rcases (z s (by omega)).1 k (by omega) with y | y
              · exact q y
              · exact q2 y)] at h
            exact h
      refine b_X11_joins_2 hH.1 (by omega) ⟨fun q => ?_, fun _ => ?_⟩
      · rw [h27, na_le (by omega) (by omega)] at q; omega
      · rw [h26]
        exact sp_seatOf (by omega) hH hc ho (by omega) ⟨_, rfl, Ext.refl _, inner (2 * gLe G) 0 (by omega) (fun h hh => by omega)⟩
  exact e_X11_joins (b_X11_joins_0 hH.1 (outer (gLe G) 0 (by omega) (fun s' hs' => by omega)))
theorem sp_mayMove {d : Nat} {x : Int32} {G : GamT} {M : Mem} {Q : Option AV → Mem → Prop} (hd : 14 ≤ d) (hH : rH M l L) (hG : rGS M p ot G) (hK : GOK L P G)
    (h : ∀ B : Mem, Fr ssS M B → Q (some (vI (bI (mmB L G x)))) B) : Cl X d 0 0 m_X11_mayMove [vR 75, vI x] M Q := by
  have hb := hH.b
  have h512 := p9 hb.2.1
  obtain ⟨g1, g2, g3, g4, g5, g6, g7, g8, g9, g10⟩ := hG
  obtain ⟨k1, k2, k3, k4, k5, k6, k7, k8, k9, k10, k11⟩ := hK
  have hm : gLe G ≤ 4 := by omega
  have h52 : (gPh G = 0 ∨ gPh G = 2) → WA X d 0 0 m_X11_mayMove 52 [some (vR 75), some (vI x)] [] M Q := fun hq => by
    refine b_X11_mayMove_52 hH.1 (by omega) ?_
    rw [g3, g4]
    have h9 := h M Fr.refl
    unfold mmB at h9
    rw [if_pos hq] at h9
    exact sp_isCut (by omega) hH k2 (by omega) ⟨_, rfl, Ext.refl _, bI_B _, h9⟩
  refine e_X11_mayMove (b_X11_mayMove_0 hH.1 (by omega) (fun x1 e1 => ?_))
  have ex : x1.toInt = (gPh G : Int) := by rw [e1, g6, nI_toInt (by omega)]
  rw [ex, g3, g4]
  refine ⟨fun q => ?_, fun q => h52 (Or.inl (by omega)), fun q => ?_, fun q => h52 (Or.inr (by omega)), fun q => ?_, fun q => ?_, fun q => ?_, fun q => ?_, fun q => ?_⟩
  · have h9 := h M Fr.refl
    unfold mmB at h9
    rw [if_neg (by omega), if_neg (by omega), if_neg (by omega), if_neg (by omega), if_neg (by omega), if_neg (by omega), if_neg (by omega)] at h9
    exact h9
  · have h9 := h M Fr.refl
    unfold mmB at h9
    rw [if_neg (by omega), if_pos (by omega)] at h9
    exact sp_inN (n := gLe G) (by omega) rfl ⟨_, rfl, Ext.refl _, bI_B _, h9⟩
  · unfold mmB at h
    rw [if_neg (by omega), if_neg (by omega), if_pos (by omega)] at h
    exact sp_isHalves (by omega) k2 hm hH (fun B hF => ⟨_, rfl, hF.ext, bI_B _, h B (hvS_ss hF)⟩)
  · have h9 := h M Fr.refl
    unfold mmB at h9
    rw [if_neg (by omega), if_neg (by omega), if_neg (by omega), if_pos (by omega)] at h9
    refine sp_isCut (by omega) hH k2 (by omega) ⟨_, rfl, Ext.refl _, fun z => ?_, fun z => ?_⟩
    · rw [bI_0.mp z, Bool.false_and] at h9; exact h9
    · have z := bI_n0.mp z
      obtain ⟨c, c1, c2, c3, c4⟩ := icB_some hb.2.1 z
      have h4 := p4 hb.2.1
      rw [z, Bool.true_and, c4] at h9
      rw [c1]
      refine sp_joins (by omega) hH g3 g4 (g9 (by omega)) (by omega) hm k5 (by omega) ⟨_, rfl, Ext.refl _, fun y => ?_, fun y => ?_⟩
      · rw [bI_0.mp y] at h9; exact h9
      · rw [bI_n0.mp y] at h9; exact h9
  · unfold mmB at h
    rw [if_neg (by omega), if_neg (by omega), if_neg (by omega), if_neg (by omega), if_pos (by omega)] at h
    refine sp_isCut (by omega) hH k2 (by omega) ⟨_, rfl, Ext.refl _, fun z => ?_, fun z => ?_⟩
    · rw [bI_0.mp z, Bool.false_and] at h; exact h M Fr.refl
    · have z := bI_n0.mp z
      obtain ⟨c, c1, c2, c3, c4⟩ := icB_some hb.2.1 z
      rw [z, Bool.true_and, c4] at h
      rw [c1]
      refine sp_isLast (by omega) hH g3 g4 k2 hm c2 c3 (fun B hF => ⟨_, rfl, hF.ext, fun y => ?_, fun y => ?_⟩)
      · have y := of_decide_eq_false (bI_0.mp y)
        have h9 := h B hF
        rw [decide_eq_true (show _ ≠ _ from y), Bool.true_or] at h9
        exact h9
      · have y := of_decide_eq_true (bI_n0.mp y)
        rw [decide_eq_false (fun w => w y), Bool.false_or] at h
        have hHB := hH.ss hF
        have hlen := lsL_len (L := L) (o := gOp G) hb.2.1 hm
        rw [hF.at (by unfold ssS; omega), hF.at (by unfold ssS; omega), g3, g4]
        refine sp_list (by omega) (by omega) k2 hm hHB (fun B2 hF2 _ => ⟨_, rfl, hF2.ext, fun w => ?_, fun w => ?_⟩)
        · rw [na_eq (by omega) (by omega)] at w
          have h9 := h B2 (hF.trans (lfS_ss hF2))
          rw [decide_eq_false w] at h9; exact h9
        · rw [na_eq (by omega) (by omega)] at w
          have h9 := h B2 (hF.trans (lfS_ss hF2))
          rw [decide_eq_true w] at h9; exact h9
  · have h9 := h M Fr.refl
    unfold mmB at h9
    rw [if_neg (by omega), if_neg (by omega), if_neg (by omega), if_neg (by omega), if_neg (by omega), if_pos (by omega)] at h9
    refine sp_isCut (by omega) hH k2 (by omega) ⟨_, rfl, Ext.refl _, fun z => ?_, fun z => ?_⟩
    · rw [bI_0.mp z, Bool.false_and] at h9; exact h9
    · have z := bI_n0.mp z
      obtain ⟨c, c1, c2, c3, c4⟩ := icB_some hb.2.1 z
      have h4 := p4 hb.2.1
      rw [z, Bool.true_and, c4] at h9
      rw [c1, g9 (by omega)]
      refine ⟨fun y => ?_, fun y => ?_⟩
      · rw [na_le (by omega) (by omega)] at y
        rw [decide_eq_false (by omega)] at h9; exact h9
      · rw [na_le (by omega) (by omega)] at y
        rw [decide_eq_true (by omega)] at h9; exact h9
  · have h9 := h M Fr.refl
    unfold mmB at h9
    rw [if_neg (by omega), if_neg (by omega), if_neg (by omega), if_neg (by omega), if_neg (by omega), if_neg (by omega), if_pos (by omega)] at h9
    exact sp_inN (n := 2) (by omega) (by decide) ⟨_, rfl, Ext.refl _, bI_B _, h9⟩
theorem sp_makeMove {d x : Nat} {th : Int32} {G : GamT} {M : Mem} {Q : Option AV → Mem → Prop} (hd : 24 ≤ d) (hH : rH M l L) (hp : p < 9) (hO : ProOK P) (hP : rPro M p P) (hG : rGS M p ot G) (hK : GOK L P G) (h8 : gPh G < 8) (hx : x < 2 ^ 31) (hth : th = (-1) ∨ th = nI (gPh (mvG L P G x)))
    (h : ∀ B : Mem, Fr sgS M B → rH B l L → rGS B p ot (mvG L P G x) → Q none B) : Cl X d 0 0 m_X11_makeMove [vR 75, vI (nI x), vI th] M Q := by
  have hb := hH.b
  have h512 := p9 hb.2.1
  have hG0 := hG
  obtain ⟨g1, g2, g3, g4, g5, g6, g7, g8, g9, g10⟩ := hG
  obtain ⟨k1, k2, k3, k4, k5, k6, k7, k8, k9, k10, k11⟩ := hK
  have hm : gLe G ≤ 4 := by omega
  have hle1 := (k8 h8).1
  -- one place written, or two
  have put : ∀ (k1 : Nat) (v1 v2 : Nat) (B : Mem), (k1 = 30 ∨ k1 = 31) → B = sI (sI M 75 k1 (nI v1)) 75 29 (nI v2) → Fr sgS M B ∧ rH B l L ∧ (∀ k, k ≠ k1 → k ≠ 29 → mI B 75 k = mI M 75 k) ∧ mI B 75 k1 = nI v1 ∧ mI B 75 29 = nI v2 ∧ stL B 92 0 (gKe G) := by
    intro k1 v1 v2 B hk hB
    have hF : Fr gmS M B := by rw [hB]; exact (Fr.sI (Or.inr ⟨rfl, by omega, by omega⟩)).trans (Fr.sI (Or.inr ⟨rfl, by omega, by omega⟩))
    refine ⟨gm_sg hF, hH.gm hF, fun k a b => ?_, ?_, ?_, fun k y hy => ?_⟩
    · rw [hB, mI_sI_i b, mI_sI_i a]
    · rw [hB, mI_sI_i (by omega), mI_sI_eq]
    · rw [hB, mI_sI_eq]
    · rw [hB, mI_sI_a (by decide), mI_sI_a (by decide)]; exact g8 k y hy
  refine e_X11_makeMove (b_X11_makeMove_0 hH.1 (by omega) (fun x1 e1 => ?_))
  have ex : x1.toInt = (gPh G : Int) := by rw [e1, g6, nI_toInt (by omega)]
  rw [ex]
  have kall : ∀ (G' : GamT) (c : Nat) (B : Mem), rH B l L → rGS B p ot G' → Fr sgS M B → c < 2 ^ 31 → gOp G' = gOp G → gLe G' = gLe G → gKe G' = gKe G → mvG L P G x = kpG L G' c → ∀ dd, 3 ≤ dd → Cl X dd 0 0 m_X11_keepAll [vR 75, vI (nI c)] B (fun r M1 => r = none ∧ Ext B M1 ∧ Q none M1) := by
    intro G' c B hHB hGB hF hc a1 a2 a3 he dd hdd
    refine sp_keepAll hdd hHB hGB hc (by rw [a1]; omega) (by rw [a3, a2]; omega) (fun B2 hF2 hH2 hG2 => ⟨rfl, hF2.ext, ?_⟩)
    rw [he] at h
    exact h B2 (hF.trans (gm_sg hF2)) hH2 hG2
  refine ⟨fun q => (by omega), fun q M1 e1 M2 e2 => ?_, fun q => ?_, fun q => ?_, fun q M1 e1 M2 e2 => ?_, fun q => ?_, fun q M10 e10 => ?_, fun q M1 e1 M2 e2 => ?_, fun q => ⟨fun z => ?_, fun z => ?_⟩⟩
  · have hmv : mvG L P G x = (1, gOp G, gLe G, gTu G, x, gSe G, gKe G) := by unfold mvG; rw [if_pos (by omega)]
    obtain ⟨p1, p2, p3, p4, p5, p6⟩ := put 30 x 1 M2 (Or.inl rfl) (by rw [e2, e1])
    rw [hmv] at h
    exact h M2 p1 p2 ⟨(p3 _ (by decide) (by decide)).trans g1, (p3 _ (by decide) (by decide)).trans g2, (p3 _ (by decide) (by decide)).trans g3, (p3 _ (by decide) (by decide)).trans g4, (p3 _ (by decide) (by decide)).trans g5, p5, (p3 _ (by decide) (by decide)).trans g7, p6, fun _ => p4, fun z => absurd z (show ¬ 1 = 7 by decide)⟩
  · -- a seat is kept
    have hmv : mvG L P G x = (if gLe G - 1 = 0 then 8 else srF L P (dif (gOp G) (sOB 2 L.1 (gDr G) (gOp G) x)) (gLe G - 1) ((gTu G + 1) % P.1), dif (gOp G) (sOB 2 L.1 (gDr G) (gOp G) x), gLe G - 1, (gTu G + 1) % P.1, gDr G, gSe G, gKe G ++ [sOB 2 L.1 (gDr G) (gOp G) x]) := by unfold mvG; rw [if_neg (by omega), if_pos (by omega)]
    rw [hmv] at h
    rw [g9 (by omega), g3]
    have hP1 := hO.1
    have hP6 := hO.2.1
    have hmod := Nat.mod_lt (gTu G + 1) (show 0 < P.1 by omega)
    refine sp_seatOf (by omega) hH k5 (by omega) hx ⟨_, rfl, Ext.refl _, sp_keep hH.1 g3 g4 g7 g8 (by omega) hle1 (fun B hF a1 a2 a3 a4 a5 => ⟨rfl, hF.ext, ?_⟩)⟩
    have hPB := hP.sc (sgS_sc (gm_sg hF))
    rw [a5 24 (by decide) (by decide) (by decide), g1, na_ix (by omega), hPB.1]
    refine ⟨na_in hp (by omega), fun z => by rw [na_eq (by omega) (by omega)] at z; omega, fun M5 e5 => ?_⟩
    rw [a5 28 (by decide) (by decide) (by decide), g5, nI_add, na_rem (by omega) (by omega) (by omega)] at e5
    have hF5 : Fr gmS M M5 := by rw [e5]; exact hF.trans (Fr.sI (Or.inr ⟨rfl, by omega, by omega⟩))
    have o5 : ∀ k, k ≠ 28 → mI M5 75 k = mI B 75 k := fun k hk => by rw [e5, mI_sI_i hk]
    have t28 : mI M5 75 28 = nI ((gTu G + 1) % P.1) := by rw [e5, mI_sI_eq]
    have t26 : mI M5 75 26 = nI (dif (gOp G) (sOB 2 L.1 (gDr G) (gOp G) x)) := (o5 _ (by decide)).trans a1
    have t27 : mI M5 75 27 = nI (gLe G - 1) := (o5 _ (by decide)).trans a2
    have t24 : mI M5 75 24 = nI p := (o5 _ (by decide)).trans ((a5 _ (by decide) (by decide) (by decide)).trans g1)
    have t25 : mI M5 75 25 = bI ot := (o5 _ (by decide)).trans ((a5 _ (by decide) (by decide) (by decide)).trans g2)
    have t77 : stL M5 92 0 (gKe G ++ [sOB 2 L.1 (gDr G) (gOp G) x]) := fun k y hy => by rw [e5, mI_sI_a (by decide)]; exact a4 k y hy
    have hdif : dif (gOp G) (sOB 2 L.1 (gDr G) (gOp G) x) < 2 ^ L.1 := Nat.xor_lt_two_pow k2 (Nat.lt_of_le_of_lt Nat.and_le_left k2)
    rw [t27]
    refine ⟨fun z => ?_, fun z M7 e7 => ?_⟩
    · rw [na_eq (by omega) (by omega)] at z
      rw [if_neg z] at h
      refine sp_startRound (by omega) (hH.gm hF5) hp hO (hP.sc (sgS_sc (gm_sg hF5))) t24 t28 hmod t26 t27 hdif (by omega) (fun B2 B3 hF2 eB => ⟨rfl, by rw [eB]; exact hF2.ext.trans ExtI, ?_⟩)
      have hF3b : Fr gmS B2 B3 := by rw [eB]; exact Fr.sI (Or.inr ⟨rfl, by omega, by omega⟩)
      have ek : ∀ k, 24 ≤ k → k ≤ 32 → k ≠ 29 → mI B3 75 k = mI M5 75 k := fun k a b c => by rw [eB, mI_sI_i c, hF2.at (by unfold ttS; omega)]
      have hph := srF_or L P (dif (gOp G) (sOB 2 L.1 (gDr G) (gOp G) x)) (gLe G - 1) ((gTu G + 1) % P.1)
      refine h B3 (((gm_sg hF5).trans (ss_sg hF2)).trans (gm_sg hF3b)) (((hH.gm hF5).ss (tt_ss hF2)).gm hF3b) ⟨(ek _ (by omega) (by omega) (by omega)).trans t24, (ek _ (by omega) (by omega) (by omega)).trans t25, (ek _ (by omega) (by omega) (by omega)).trans t26, (ek _ (by omega) (by omega) (by omega)).trans t27, (ek _ (by omega) (by omega) (by omega)).trans t28, by rw [eB, mI_sI_eq]; rfl, (ek _ (by omega) (by omega) (by omega)).trans ((o5 _ (by decide)).trans a3), ?_, fun y => ?_, fun y => ?_⟩
      · intro k y hy
        rw [eB, mI_sI_a (by decide), hF2.at (by unfold ttS; omega)]; exact t77 k y hy
      · have y : srF L P (dif (gOp G) (sOB 2 L.1 (gDr G) (gOp G) x)) (gLe G - 1) ((gTu G + 1) % P.1) = 1 ∨ srF L P (dif (gOp G) (sOB 2 L.1 (gDr G) (gOp G) x)) (gLe G - 1) ((gTu G + 1) % P.1) = 4 ∨ srF L P (dif (gOp G) (sOB 2 L.1 (gDr G) (gOp G) x)) (gLe G - 1) ((gTu G + 1) % P.1) = 6 ∨ srF L P (dif (gOp G) (sOB 2 L.1 (gDr G) (gOp G) x)) (gLe G - 1) ((gTu G + 1) % P.1) = 7 := y
        omega
      · have y : srF L P (dif (gOp G) (sOB 2 L.1 (gDr G) (gOp G) x)) (gLe G - 1) ((gTu G + 1) % P.1) = 7 := y
        omega
    · rw [na_eq (by omega) (by omega)] at z
      rw [if_pos z] at h
      have hF7 : Fr gmS M M7 := by rw [e7]; exact hF5.trans (Fr.sI (Or.inr ⟨rfl, by omega, by omega⟩))
      have o7 : ∀ k, k ≠ 29 → mI M7 75 k = mI M5 75 k := fun k hk => by rw [e7, mI_sI_i hk]
      refine h M7 (gm_sg hF7) (hH.gm hF7) ⟨(o7 _ (by decide)).trans t24, (o7 _ (by decide)).trans t25, (o7 _ (by decide)).trans t26, (o7 _ (by decide)).trans t27, (o7 _ (by decide)).trans t28, by rw [e7, mI_sI_eq]; rfl, (o7 _ (by decide)).trans ((o5 _ (by decide)).trans a3), fun k y hy => by rw [e7, mI_sI_a (by decide)]; exact t77 k y hy, fun y => absurd y (show ¬ (8 = 1 ∨ 8 = 4 ∨ 8 = 6 ∨ 8 = 7) by decide), fun y => absurd y (show ¬ 8 = 7 by decide)⟩
  · have hmv : mvG L P G x = kpG L G x := by unfold mvG; rw [if_neg (by omega), if_neg (by omega), if_neg (by omega), if_neg (by omega), if_neg (by omega), if_neg (by omega)]
    exact b_X11_makeMove_217 hH.1 (by omega) (kall G x M hH hG0 Fr.refl hx rfl rfl rfl hmv _ (by omega))
  · have hmv : mvG L P G x = (4, gOp G, gLe G, gTu G, x, gSe G, gKe G) := by unfold mvG; rw [if_neg (by omega), if_neg (by omega), if_pos (by omega)]
    obtain ⟨p1, p2, p3, p4, p5, p6⟩ := put 30 x 4 M2 (Or.inl rfl) (by rw [e2, e1])
    rw [hmv] at h
    exact h M2 p1 p2 ⟨(p3 _ (by decide) (by decide)).trans g1, (p3 _ (by decide) (by decide)).trans g2, (p3 _ (by decide) (by decide)).trans g3, (p3 _ (by decide) (by decide)).trans g4, (p3 _ (by decide) (by decide)).trans g5, p5, (p3 _ (by decide) (by decide)).trans g7, p6, fun _ => p4, fun z => absurd z (show ¬ 4 = 7 by decide)⟩
  · have hmv : mvG L P G x = kpG L G x := by unfold mvG; rw [if_neg (by omega), if_neg (by omega), if_neg (by omega), if_neg (by omega), if_neg (by omega), if_neg (by omega)]
    exact b_X11_makeMove_217 hH.1 (by omega) (kall G x M hH hG0 Fr.refl hx rfl rfl rfl hmv _ (by omega))
  · -- the first of two
    have hmv : mvG L P G x = (if (lsL L (gOp G) (gLe G)).length = 1 then kpG L (gPh G, gOp G, gLe G, gTu G, x, gSe G, gKe G) x else (6, gOp G, gLe G, gTu G, x, gSe G, gKe G)) := by unfold mvG; rw [if_neg (by omega), if_neg (by omega), if_neg (by omega), if_pos (by omega)]
    have hF10 : Fr gmS M M10 := by rw [e10]; exact Fr.sI (Or.inr ⟨rfl, by omega, by omega⟩)
    have o10 : ∀ k, k ≠ 30 → mI M10 75 k = mI M 75 k := fun k hk => by rw [e10, mI_sI_i hk]
    have hG10 : rGS M10 p ot (gPh G, gOp G, gLe G, gTu G, x, gSe G, gKe G) := ⟨(o10 _ (by decide)).trans g1, (o10 _ (by decide)).trans g2, (o10 _ (by decide)).trans g3, (o10 _ (by decide)).trans g4, (o10 _ (by decide)).trans g5, (o10 _ (by decide)).trans g6, (o10 _ (by decide)).trans g7, fun k y hy => by rw [e10, mI_sI_a (by decide)]; exact g8 k y hy, fun _ => by rw [e10, mI_sI_eq]; rfl, fun y => by
      have y : gPh G = 7 := y
      omega⟩
    have alone : ∀ B : Mem, Fr ttS M10 B → (lsL L (gOp G) (gLe G)).length = 1 → WA X d 0 0 m_X11_makeMove 164 [some (vR 75), some (vI (nI x)), none] [] B Q := fun B hF h1 => by
      rw [if_pos h1] at hmv
      exact b_X11_makeMove_164 ((hH.gm hF10).ss (tt_ss hF)).1 (by omega) (kall (gPh G, gOp G, gLe G, gTu G, x, gSe G, gKe G) x B ((hH.gm hF10).ss (tt_ss hF)) (hG10.ss (tt_ss hF)) ((gm_sg hF10).trans (ss_sg hF)) hx rfl rfl rfl hmv _ (by omega))
    have more : ∀ B : Mem, Fr ttS M10 B → ¬ (lsL L (gOp G) (gLe G)).length = 1 → WA X d 0 0 m_X11_makeMove 172 [some (vR 75), none, none] [] B Q := fun B hF h1 => by
      rw [if_neg h1] at hmv
      rw [hmv] at h
      refine b_X11_makeMove_172 ((hH.gm hF10).ss (tt_ss hF)).1 (fun M1 e1 => ?_)
      have hF1 : Fr gmS B M1 := by rw [e1]; exact Fr.sI (Or.inr ⟨rfl, by omega, by omega⟩)
      have o1 : ∀ k, k ≠ 29 → mI M1 75 k = mI B 75 k := fun k hk => by rw [e1, mI_sI_i hk]
      obtain ⟨y1, y2, y3, y4, y5, y6, y7, y8, y9, y10⟩ := hG10.ss (tt_ss hF)
      exact h M1 (((gm_sg hF10).trans (ss_sg hF)).trans (gm_sg hF1)) (((hH.gm hF10).ss (tt_ss hF)).gm hF1) ⟨(o1 _ (by decide)).trans y1, (o1 _ (by decide)).trans y2, (o1 _ (by decide)).trans y3, (o1 _ (by decide)).trans y4, (o1 _ (by decide)).trans y5, by rw [e1, mI_sI_eq]; rfl, (o1 _ (by decide)).trans y7, fun k y hy => by rw [e1, mI_sI_a (by decide)]; exact y8 k y hy, fun _ => (o1 _ (by decide)).trans (by rw [hF.at (by unfold ttS; omega), e10, mI_sI_eq]; rfl), fun z => absurd z (show ¬ 6 = 7 by decide)⟩
    have hph : gPh (mvG L P G x) = if (lsL L (gOp G) (gLe G)).length = 1 then 8 else 6 := by
      rw [hmv]; split <;> rfl
    refine ⟨fun z => ⟨fun z2 => ?_, fun z2 => ?_⟩, fun z => ?_⟩
    · rcases hth with y | y
      · exact absurd y z
      · rw [y, hph] at z2
        refine more M10 Fr.refl (fun w => z2 ?_)
        rw [if_pos w]
    · rcases hth with y | y
      · exact absurd y z
      · rw [y, hph] at z2
        refine alone M10 Fr.refl ?_
        by_cases w : (lsL L (gOp G) (gLe G)).length = 1
        · exact w
        · rw [if_neg w] at z2; exact absurd z2 (by decide)
    · refine sp_isAlone (by omega) (hH.gm hF10) ((o10 _ (by decide)).trans g3) ((o10 _ (by decide)).trans g4) k2 hm (fun B hF => ⟨_, rfl, hF.ext, fun w => ?_, fun w => ?_⟩)
      · exact more B hF (of_decide_eq_false (bI_0.mp w))
      · exact alone B hF (of_decide_eq_true (bI_n0.mp w))
  · have hmv : mvG L P G x = (7, gOp G, gLe G, gTu G, gDr G, x, gKe G) := by unfold mvG; rw [if_neg (by omega), if_neg (by omega), if_neg (by omega), if_neg (by omega), if_pos (by omega)]
    obtain ⟨p1, p2, p3, p4, p5, p6⟩ := put 31 x 7 M2 (Or.inr rfl) (by rw [e2, e1])
    rw [hmv] at h
    exact h M2 p1 p2 ⟨(p3 _ (by decide) (by decide)).trans g1, (p3 _ (by decide) (by decide)).trans g2, (p3 _ (by decide) (by decide)).trans g3, (p3 _ (by decide) (by decide)).trans g4, (p3 _ (by decide) (by decide)).trans g5, p5, (p3 _ (by decide) (by decide)).trans g7, p6, fun _ => (p3 _ (by decide) (by decide)).trans (g9 (by omega)), fun _ => p4⟩
  · have hmv : mvG L P G x = kpG L G (if x = 0 then gDr G else gSe G) := by unfold mvG; rw [if_neg (by omega), if_neg (by omega), if_neg (by omega), if_neg (by omega), if_neg (by omega), if_pos (by omega)]
    rw [na_eq (by omega) (by omega)] at z
    rw [if_neg z] at hmv
    rw [g10 (by omega)]
    exact b_X11_makeMove_211 hH.1 (by omega) (kall G (gSe G) M hH hG0 Fr.refl k6 rfl rfl rfl hmv _ (by omega))
  · have hmv : mvG L P G x = kpG L G (if x = 0 then gDr G else gSe G) := by unfold mvG; rw [if_neg (by omega), if_neg (by omega), if_neg (by omega), if_neg (by omega), if_neg (by omega), if_pos (by omega)]
    rw [na_eq (by omega) (by omega)] at z
    rw [if_pos z] at hmv
    rw [g9 (by omega)]
    exact b_X11_makeMove_211 hH.1 (by omega) (kall G (gDr G) M hH hG0 Fr.refl k5 rfl rfl rfl hmv _ (by omega))
/-- whose move it is -/
def moF (P : ProT) (ot : Bool) (G : GamT) : Nat := if gPh G = 1 ∨ gPh G = 4 ∨ gPh G = 7 then 1 - drF P ot (gTu G) else drF P ot (gTu G)
theorem sp_mover {d : Nat} {G : GamT} {M : Mem} {Q : Option AV → Mem → Prop} (hd : 2 ≤ d) (hS : RfS M) (hp : p < 9) (hO : ProOK P) (hP : rPro M p P) (hG : rGS M p ot G) (hK : GOK L P G) (h : Q (some (vI (nI (moF P ot G)))) M) : Cl X d 0 0 m_X11_mover [vR 75] M Q := by
  obtain ⟨g1, g2, g3, g4, g5, g6, g7, g8, g9, g10⟩ := hG
  have k1 := hK.1
  have hdr := drF_le hO ot (gTu G)
  have f25 : (gPh G = 1 ∨ gPh G = 4 ∨ gPh G = 7) → WA X d 0 0 m_X11_mover 25 [some (vR 75)] [] M Q := fun hq => by
    refine b_X11_mover_25 hS (by omega) (sp_firstNow hS hp hO hP g1 g2 g5 hK.2.2.2.1 ⟨_, rfl, Ext.refl _, ?_⟩)
    unfold moF at h; rw [if_pos hq] at h
    rw [na_sub hdr]; exact h
  refine e_X11_mover (b_X11_mover_0 hS (by omega) ?_)
  rw [g6, na_eq (by omega) (by omega), na_eq (by omega) (by omega), na_eq (by omega) (by omega)]
  refine ⟨fun q => f25 (Or.inl q), fun q => ⟨fun q2 => f25 (Or.inr (Or.inl q2)), fun q2 => ⟨fun q3 => ?_, fun q3 => f25 (Or.inr (Or.inr q3))⟩⟩⟩
  refine sp_firstNow hS hp hO hP g1 g2 g5 hK.2.2.2.1 ⟨_, rfl, Ext.refl _, ?_⟩
  unfold moF at h; rw [if_neg (by omega)] at h
  exact h
end GAME
