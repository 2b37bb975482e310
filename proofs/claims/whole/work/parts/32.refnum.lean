def oI : Option Nat → Int32
  | none => (-1)
  | some b => nI b
theorem decI {P : Prop} [Decidable P] {b : Bool} (h : P ↔ b = true) : decide P = b := by
  cases b with
  | true => exact decide_eq_true (h.mpr rfl)
  | false => exact decide_eq_false (fun q => by have := h.mp q; cases this)
theorem isDig_eq {z : Nat} {t : Nat → Nat} {j : Nat} (hj : j < z) (ht : t j < 256) : (decide (nI 48 ≤ nI (t j)) && decide (nI (t j) ≤ nI 57)) = isD z t j := by
  unfold isD
  rw [decide_eq_true hj, Bool.true_and]
  congr 1
  · exact decide_eq_decide.mpr (na_le (by omega) (by omega))
  · exact decide_eq_decide.mpr (na_le (by omega) (by omega))
theorem isD_lt {z : Nat} {t : Nat → Nat} {j : Nat} (h : isD z t j = true) : j < z ∧ 48 ≤ t j ∧ t j ≤ 57 := by
  unfold isD at h; simp only [Bool.and_eq_true, decide_eq_true_eq] at h; exact ⟨h.1.1, h.1.2, h.2⟩
theorem isD_ge {z : Nat} {t : Nat → Nat} {j : Nat} (h : z ≤ j) : isD z t j = false := by
  unfold isD; rw [decide_eq_false (by omega)]; rfl
/-- number: one turn of its loop -/
theorem wa_num38 {X : Cx} {d kc ns : Nat} {Q : Option AV → Mem → Prop} {z j n v : Nat} {t : Nat → Nat} {low high but : Int32} {M : Mem} (hd : 2 ≤ d) (hS : RfS M) (hT : rT M z t) (ha : mI M 75 3 = nI j) (hj : j < 2 ^ 20) (hn : n ≤ 3) (hv : v < 1000)
    (hno : isD z t j = false → WA X d kc ns m_X11_number 116 [some (vR 75), some (vI low), some (vI high), some (vI but), none, some (vI (nI v)), none] [] M Q)
    (hyes : isD z t j = true → n ≠ 3 → WA X d kc ns m_X11_number 38 [some (vR 75), some (vI low), some (vI high), some (vI but), none, some (vI (nI (10 * v + (t j - 48)))), some (vI (nI (n + 1)))] [] (sI M 75 3 (nI (j + 1))) Q)
    (h4 : isD z t j = true → n = 3 → Q (some (vI low)) (sI M 75 4 (if mI M 75 4 = (-1) then nI j else mI M 75 4))) :
    WA X d kc ns m_X11_number 38 [some (vR 75), some (vI low), some (vI high), some (vI but), none, some (vI (nI v)), some (vI (nI n))] [] M Q := by
  have hz := hT.2.1
  refine b_X11_number_38 hS (by omega) ⟨fun hc => ?_, fun hc => ?_⟩
  · rw [hT.1, ha, na_le (by omega) (by omega)] at hc
    exact hno (isD_ge hc)
  · rw [hT.1, ha, na_le (by omega) (by omega)] at hc
    obtain ⟨t1, t2, t3⟩ := hT.2.2 j (by omega)
    have hx : ix (mI M 75 3) = j := by rw [ha]; exact na_ix (by omega)
    have hin : vp_in (mI M 75 3) 300 := by rw [ha]; exact na_in (by omega) (by omega)
    refine ⟨hin, sp_isDigit ⟨_, rfl, Ext.refl _, ?_⟩⟩
    rw [hx, t1, isDig_eq (z := z) (by omega) t3]
    refine ⟨fun hb => hno (bI_0.mp hb), fun hb => ?_⟩
    have hD := bI_n0.mp hb
    obtain ⟨q1, q2, q3⟩ := isD_lt hD
    refine ⟨fun h3 => ⟨hin, fun x2 e2 M2 e3 => ?_⟩, fun h3 => ?_⟩
    · rw [na_eq (by omega) (by omega)] at h3
      have h5 := hyes hD h3
      rw [e3, e2, ha, nI_add, nI_add]
      have e6 : nI 10 * nI v + nI (t j) - nI 48 = nI (10 * v + (t j - 48)) := by
        rw [pk_mul, nI_add, na_sub (by omega)]
        congr 1; omega
      rw [e6]
      exact h5
    · rw [na_eq (by omega) (by omega)] at h3
      refine sp_bad hS ⟨rfl, ExtI, ?_⟩
      rw [ha]
      exact h4 hD h3
/-- number: the bounds -/
theorem wa_num116 {X : Cx} {d kc ns : Nat} {Q : Option AV → Mem → Prop} {e v low high : Nat} {but : Option Nat} {M : Mem} (hd : 2 ≤ d) (hS : RfS M) (ha : mI M 75 3 = nI e) (he : 1 ≤ e ∧ e < 2 ^ 20) (hv : v < 1000) (hl : low < 1000) (hh : high < 1000) (hbt : ∀ b, but = some b → b < 1000)
    (hok : ¬ (v < low ∨ high < v ∨ some v = but) → Q (some (vI (nI v))) M) (hbad : (v < low ∨ high < v ∨ some v = but) → Q (some (vI (nI low))) (sI M 75 4 (if mI M 75 4 = (-1) then nI (e - 1) else mI M 75 4))) :
    WA X d kc ns m_X11_number 116 [some (vR 75), some (vI (nI low)), some (vI (nI high)), some (vI (oI but)), none, some (vI (nI v)), none] [] M Q := by
  have hb132 : (v < low ∨ high < v ∨ some v = but) → WA X d kc ns m_X11_number 132 [some (vR 75), some (vI (nI low)), none, none, none, none, none] [] M Q := fun hc => by
    refine b_X11_number_132 hS (by omega) (sp_bad hS ⟨rfl, ExtI, ?_⟩)
    rw [ha, na_sub he.1]
    exact hbad hc
  have hbut : nI v = (oI but) ↔ some v = but := by
    cases but with
    | none => exact ⟨fun q => absurd q (na_m1 (by omega)), fun q => by cases q⟩
    | some b =>
      show nI v = nI b ↔ _
      rw [na_eq (by omega) (by have := hbt b rfl; omega)]; exact ⟨fun q => by rw [q], fun q => by cases q; rfl⟩
  refine b_X11_number_116 hS (by omega) (sp_in ⟨_, rfl, Ext.refl _, ?_⟩)
  have e1 : decide (nI low ≤ nI v) = decide (low ≤ v) := decide_eq_decide.mpr (na_le (by omega) (by omega))
  have e2 : decide (nI v ≤ nI high) = decide (v ≤ high) := decide_eq_decide.mpr (na_le (by omega) (by omega))
  rw [e1, e2]
  refine ⟨fun h0 => ?_, fun h0 => ⟨fun h1 => ?_, fun h1 => ?_⟩⟩
  · have := bI_0.mp h0
    simp only [Bool.and_eq_false_iff, decide_eq_false_iff_not] at this
    exact hb132 (by omega)
  · have := bI_n0.mp h0
    simp only [Bool.and_eq_true, decide_eq_true_eq] at this
    refine hok ?_
    rintro (q | q | q)
    · omega
    · omega
    · exact h1 (hbut.mpr q)
  · exact hb132 (Or.inr (Or.inr (hbut.mp h1)))
/-- number, where nothing is wrong yet -/
theorem sp_number {X : Cx} {d : Nat} {Q : Option AV → Mem → Prop} {z i low high : Nat} {but : Option Nat} {t : Nat → Nat} {M : Mem} (hd : 3 ≤ d) (hS : RfS M) (hT : rT M z t) (ha : mI M 75 3 = nI i) (hi : i < 2 ^ 19) (hw : mI M 75 4 = (-1)) (hl : low < 1000) (hh : high < 1000) (hbt : ∀ b, but = some b → b < 1000)
    (h : match num z t low high but i with
      | .inl f => Q (some (vI (nI low))) (sI (sI M 75 3 (nI (skp z t i + min (nD z t (skp z t i)) 3))) 75 4 (nI f))
      | .inr (v, e) => Q (some (vI (nI v))) (sI M 75 3 (nI e))) :
    Cl X d 0 0 m_X11_number [vR 75, vI (nI low), vI (nI high), vI (oI but)] M Q := by
  have hz := hT.2.1
  have hj0 := skp_ge z t i
  have hj1 := skp_le z t i
  generalize hj : skp z t i = j at hj0 hj1
  have hjb : j < 2 ^ 19 + 300 := by omega
  unfold num at h
  rw [hj] at h
  have wr : ∀ (k : Nat) (x : Int32), (if mI (sI M 75 3 (nI k)) 75 4 = (-1) then x else mI (sI M 75 3 (nI k)) 75 4) = x := fun k x => by rw [mI_sI_i (by decide), hw, if_pos rfl]
  have hS1 : ∀ k : Nat, RfS (sI M 75 3 (nI k)) := fun k => hS
  have hT1 : ∀ k : Nat, rT (sI M 75 3 (nI k)) z t := fun k => hT.s (by decide)
  refine e_X11_number (b_X11_number_0 hS (by omega) (sp_look hS hT ha (by omega) ⟨_, rfl, ExtI, ?_⟩))
  rw [hj]
  refine ⟨fun q => absurd (by rw [mI_sI_i (by decide)]; exact hw) q, fun _ => sp_isDigit ⟨_, rfl, Ext.refl _, ?_⟩⟩
  have hdg : (decide (nI 48 ≤ lkV z t j) && decide (lkV z t j ≤ nI 57)) = isD z t j := by
    unfold lkV
    by_cases hc : j < z
    · rw [if_pos hc]; exact isDig_eq hc (hT.2.2 j hc).2.2
    · rw [if_neg hc, isD_ge (by omega)]; decide
  rw [hdg]
  refine ⟨fun hb => ?_, fun hb => ?_⟩
  · have hD0 := bI_n0.mp hb
    -- the first digit
    have hk0 : nD z t j ≠ 0 := by unfold nD; rw [hD0]; simp; split <;> (try split) <;> (try split) <;> omega
    obtain ⟨a1, a2, a3⟩ := isD_lt hD0
    have fin : ∀ (k : Nat), 1 ≤ k → k ≤ 3 → nD z t j = k → WA X d 0 0 m_X11_number 116 [some (vR 75), some (vI (nI low)), some (vI (nI high)), some (vI (oI but)), none, some (vI (nI (vD t j k))), none] [] (sI M 75 3 (nI (j + k))) Q := by
      intro k k1 k3 hk
      rw [hk, if_neg (by omega), if_neg (by omega)] at h
      have hvb : vD t j k < 1000 := by
        have hall : (∀ q, q < k → isD z t (j + q) = true) := by
          intro q hq
          unfold nD at hk
          rcases (show k = 1 ∨ k = 2 ∨ k = 3 by omega) with rfl | rfl | rfl
          · obtain rfl : q = 0 := by omega
            exact hD0
          · rcases (show q = 0 ∨ q = 1 by omega) with rfl | rfl
            · exact hD0
            · cases h9 : isD z t (j + 1) with
              | true => rfl
              | false => rw [hD0, h9] at hk; simp at hk
          · rcases (show q = 0 ∨ q = 1 ∨ q = 2 by omega) with rfl | rfl | rfl
            · exact hD0
            · cases h9 : isD z t (j + 1) with
              | true => rfl
              | false => rw [hD0, h9] at hk; simp at hk
            · cases h9 : isD z t (j + 2) with
              | true => rfl
              | false => rw [hD0, h9] at hk; simp at hk; split at hk <;> omega
        have b0 := isD_lt (hall 0 (by omega))
        rcases (show k = 1 ∨ k = 2 ∨ k = 3 by omega) with rfl | rfl | rfl
        · rw [vD_1]; simp only [Nat.add_zero] at b0; omega
        · have b1 := isD_lt (hall 1 (by omega)); rw [vD_2]; simp only [Nat.add_zero] at b0; omega
        · have b1 := isD_lt (hall 1 (by omega)); have b2 := isD_lt (hall 2 (by omega)); rw [vD_3]; simp only [Nat.add_zero] at b0; omega
      refine wa_num116 (by omega) (hS1 _) mI_sI_eq ⟨by omega, by omega⟩ hvb hl hh hbt (fun hc => ?_) (fun hc => ?_)
      · rw [if_neg hc] at h; exact h
      · rw [if_pos hc] at h
        rw [wr]
        have : min k 3 = k := by omega
        rw [this] at h
        exact h
    refine wa_num38 (n := 0) (v := 0) (by omega) (hS1 _) (hT1 _) mI_sI_eq (by omega) (by omega) (by omega) (fun q => by rw [hD0] at q; cases q) (fun _ _ => ?_) (fun _ q => by omega)
    rw [sI_sI]
    by_cases c1 : isD z t (j + 1) = false
    · have hk : nD z t j = 1 := by unfold nD; rw [hD0, c1]; rfl
      have h9 := fin 1 (by omega) (by omega) hk
      refine wa_num38 (n := 1) (v := 10 * 0 + (t j - 48)) (by omega) (hS1 _) (hT1 _) mI_sI_eq (by omega) (by omega) (by omega) (fun _ => ?_) (fun q => by rw [c1] at q; cases q) (fun q => by rw [c1] at q; cases q)
      rw [vD_1] at h9
      rw [show 10 * 0 + (t j - 48) = t j - 48 by omega]
      exact h9
    have c1 : isD z t (j + 1) = true := by cases h9 : isD z t (j + 1) with | true => rfl | false => exact absurd h9 c1
    obtain ⟨b1, b2, b3⟩ := isD_lt c1
    refine wa_num38 (n := 1) (v := 10 * 0 + (t j - 48)) (by omega) (hS1 _) (hT1 _) mI_sI_eq (by omega) (by omega) (by omega) (fun q => by rw [c1] at q; cases q) (fun _ _ => ?_) (fun _ q => by omega)
    rw [sI_sI]
    by_cases c2 : isD z t (j + 2) = false
    · have hk : nD z t j = 2 := by unfold nD; rw [hD0, c1, c2]; rfl
      have h9 := fin 2 (by omega) (by omega) hk
      refine wa_num38 (n := 2) (j := j + 2) (by omega) (hS1 _) (hT1 _) mI_sI_eq (by omega) (by omega) (by omega) (fun _ => ?_) (fun q => by rw [c2] at q; cases q) (fun q => by rw [c2] at q; cases q)
      rw [vD_2] at h9
      rw [show 10 * (10 * 0 + (t j - 48)) + (t (j + 1) - 48) = 10 * (t j - 48) + (t (j + 1) - 48) by omega]
      exact h9
    have c2 : isD z t (j + 2) = true := by cases h9 : isD z t (j + 2) with | true => rfl | false => exact absurd h9 c2
    obtain ⟨d1, d2, d3⟩ := isD_lt c2
    refine wa_num38 (n := 2) (j := j + 2) (by omega) (hS1 _) (hT1 _) mI_sI_eq (by omega) (by omega) (by omega) (fun q => by rw [c2] at q; cases q) (fun _ _ => ?_) (fun _ q => by omega)
    rw [sI_sI]
    by_cases c3 : isD z t (j + 3) = false
    · have hk : nD z t j = 3 := by unfold nD; rw [hD0, c1, c2, c3]; rfl
      have h9 := fin 3 (by omega) (by omega) hk
      refine wa_num38 (n := 3) (j := j + 3) (by omega) (hS1 _) (hT1 _) mI_sI_eq (by omega) (by omega) (by omega) (fun _ => ?_) (fun q => by rw [c3] at q; cases q) (fun q => by rw [c3] at q; cases q)
      rw [vD_3] at h9
      rw [show 10 * (10 * (10 * 0 + (t j - 48)) + (t (j + 1) - 48)) + (t (j + 2) - 48) = 10 * (10 * (t j - 48) + (t (j + 1) - 48)) + (t (j + 2) - 48) by omega]
      exact h9
    have c3 : isD z t (j + 3) = true := by cases h9 : isD z t (j + 3) with | true => rfl | false => exact absurd h9 c3
    have hk : nD z t j = 4 := by unfold nD; rw [hD0, c1, c2, c3]; rfl
    refine wa_num38 (n := 3) (j := j + 3) (by omega) (hS1 _) (hT1 _) mI_sI_eq (by omega) (by omega) (by omega) (fun q => by rw [c3] at q; cases q) (fun _ q => absurd rfl q) (fun _ _ => ?_)
    rw [hk] at h
    simp only [if_neg (show ¬ 4 = 0 by decide), if_true] at h
    rw [wr]
    exact h
  · have hD0 := bI_0.mp hb
    have hk : nD z t j = 0 := by unfold nD; rw [hD0]; rfl
    rw [hk] at h
    simp only [if_true] at h
    refine b_X11_number_22 (hS1 _) (by omega) (sp_bad (hS1 _) ⟨rfl, ExtI, ?_⟩)
    rw [wr, mI_sI_eq]
    exact h
