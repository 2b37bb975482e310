/-! THE CUT THAT A GAME ENDS WITH -/
def fsK : List Nat → Nat → Nat
  | [], _ => 0
  | s :: ks, q => if s.testBit q then 0 else fsK ks q + 1
theorem fsK_at {q : Nat} : ∀ {ks : List Nat}, 1 ≤ cvN ks q → fsK ks q < ks.length ∧ (ks.getD (fsK ks q) 0).testBit q = true ∧ ∀ i, i < fsK ks q → (ks.getD i 0).testBit q = false
  | [], h => by simp [cvN] at h
  | s :: ks, h => by
    unfold fsK
    by_cases hs : s.testBit q = true
    · rw [if_pos hs]
      exact ⟨by simp, by simpa using hs, fun i hi => by omega⟩
    · rw [if_neg hs]
      have h' : 1 ≤ cvN ks q := by
        unfold cvN at h ⊢
        rw [List.foldr_cons, if_neg hs] at h
        omega
      obtain ⟨a, b, c⟩ := fsK_at h'
      refine ⟨by simp only [List.length_cons]; omega, by simpa using b, fun i hi => ?_⟩
      cases i with
      | zero => simpa using hs
      | succ i => simpa using c i (by omega)
theorem cv_one {q : Nat} : ∀ {ks : List Nat} {i j : Nat}, cvN ks q ≤ 1 → i < j → j < ks.length → (ks.getD i 0).testBit q = true → (ks.getD j 0).testBit q = true → False
  | [], i, j, h, hij, hj, _, _ => by simp at hj
  | s :: ks, 0, j + 1, h, hij, hj, hi1, hj1 => by
    have hi1 : s.testBit q = true := by simpa using hi1
    have hj1 : (ks.getD j 0).testBit q = true := by simpa using hj1
    simp only [cvN, List.foldr_cons, hi1, if_true] at h
    have h0 : cvN ks q = 0 := by unfold cvN; omega
    have : ∀ (ks : List Nat) (j : Nat), cvN ks q = 0 → j < ks.length → (ks.getD j 0).testBit q = false := by
      intro ks
      induction ks with
      | nil => intro j _ hj; simp at hj
      | cons s ks ih =>
        intro j h hj
        simp only [cvN, List.foldr_cons] at h
        cases j with
        | zero =>
          show s.testBit q = false
          cases hs : s.testBit q with
          | false => rfl
          | true => rw [hs] at h; simp at h
        | succ j =>
          have h2 : cvN ks q = 0 := by unfold cvN; omega
          have := ih j h2 (by simp only [List.length_cons] at hj; omega)
          simpa using this
    have := this ks j h0 (by simp only [List.length_cons] at hj; omega)
    rw [this] at hj1; cases hj1
  | s :: ks, i + 1, j + 1, h, hij, hj, hi1, hj1 => by
    simp only [cvN, List.foldr_cons] at h
    refine cv_one (q := q) (ks := ks) (i := i) (j := j) (by unfold cvN; omega) (by omega) (by simp only [List.length_cons] at hj; omega) (by simpa using hi1) (by simpa using hj1)
/-- what naming anew gives -/
theorem rn_all {D : Nat → Nat} (hD : ∀ p, D p < 4) {o : Nat} : ∀ p, (∀ q, q < p → o.testBit q = true) → nuF 2 p (rnF D p).2.2 o p = some (rnF D p).2.1 ∧ (∀ q, q < p → (rnF D p).1 (D q) = some (dgB 2 p (rnF D p).2.2 q)) ∧ (∀ i y, (rnF D p).1 i = some y → ∃ q, q < p ∧ D q = i) ∧ (∀ i j y, (rnF D p).1 i = some y → (rnF D p).1 j = some y → i = j)
  | 0, _ => ⟨rfl, fun q hq => by omega, fun i y h => (by cases h), fun i j y h => (by cases h)⟩
  | p + 1, ho => by
    obtain ⟨h1, h2, h3, h4⟩ := rn_all hD (o := o) p (fun q hq => ho q (by omega))
    obtain ⟨k1, k2, k3, k4⟩ := rnF_ok hD p
    have hop := ho p (by omega)
    unfold rnF
    cases hc : (rnF D p).1 (D p) with
    | none =>
      dsimp only
      have hlt := cnO_lt hc (hD p)
      have hx : (rnF D p).2.1 < 2 ^ 2 := by omega
      have pre : ∀ q, q < p → dgB 2 (p + 1) (4 * (rnF D p).2.2 + (rnF D p).2.1) q = dgB 2 p (rnF D p).2.2 q := fun q hq => dgB_init (b := 2) hx hq
      have lst : dgB 2 (p + 1) (4 * (rnF D p).2.2 + (rnF D p).2.1) p = (rnF D p).2.1 := dgB_last (b := 2) hx
      refine ⟨?_, fun q hq => ?_, fun i y h => ?_, fun i j y hi hj => ?_⟩
      · unfold nuF
        rw [nuF_congr pre, h1]
        dsimp only
        rw [lst, if_pos hop, if_neg (by omega), if_pos rfl]
      · rcases (show q < p ∨ q = p by omega) with z | z
        · rw [pre q z, if_neg (fun w => by rw [← w, h2 q z] at hc; cases hc)]
          exact h2 q z
        · subst z; rw [if_pos rfl, lst]
      · split at h
        · rename_i hi; exact ⟨p, by omega, hi.symm⟩
        · obtain ⟨q, q1, q2⟩ := h3 i y h; exact ⟨q, by omega, q2⟩
      · split at hi
        · rename_i hi2
          split at hj
          · rename_i hj2; omega
          · cases hi
            have := k2 _ _ hj; omega
        · split at hj
          · cases hj
            have := k2 _ _ hi; omega
          · exact h4 i j y hi hj
    | some y0 =>
      dsimp only
      have hyn := k2 _ _ hc
      have hcn := cnO_le (rnF D p).1 4
      have hx : y0 < 2 ^ 2 := by omega
      have pre : ∀ q, q < p → dgB 2 (p + 1) (4 * (rnF D p).2.2 + y0) q = dgB 2 p (rnF D p).2.2 q := fun q hq => dgB_init (b := 2) hx hq
      have lst : dgB 2 (p + 1) (4 * (rnF D p).2.2 + y0) p = y0 := dgB_last (b := 2) hx
      refine ⟨?_, fun q hq => ?_, fun i y h => ?_, h4⟩
      · unfold nuF
        rw [nuF_congr pre, h1]
        dsimp only
        rw [lst, if_pos hop, if_neg (by omega), if_neg (by omega)]
      · rcases (show q < p ∨ q = p by omega) with z | z
        · rw [pre q z]; exact h2 q z
        · subst z; rw [lst]; exact hc
      · obtain ⟨q, q1, q2⟩ := h3 i y h; exact ⟨q, by omega, q2⟩
def keF (L : LandT) (G : GamT) : Nat := (rnF (fun q => fsK (gKe G) q % 4) L.1).2.2
theorem cnO_eq {f : Nat → Option Nat} {S : Nat} : ∀ n, (∀ i, i < n → ((f i).isSome = true ↔ i < S)) → cnO f n = min n S
  | 0, _ => by simp [cnO]
  | n + 1, h => by
    unfold cnO
    rw [cnO_eq n (fun i hi => h i (by omega))]
    have := h n (by omega)
    by_cases hn : n < S
    · rw [if_pos (this.mpr hn)]; omega
    · rw [if_neg (fun z => hn (this.mp z))]; omega
theorem tb_wh {L : LandT} {q : Nat} : (whL L).testBit q = decide (q < L.1) := by unfold whL; rw [Nat.testBit_two_pow_sub_one]
/-- the cut of a game that is over, with all kept -/
theorem keF_ok {L : LandT} {P : ProT} {G : GamT} (hL : LdOK L) (hK : GOK L P G) (hV : GCV L G) (h8 : gPh G = 8) : keF L G < 4 ^ L.1 ∧ jdL L (keF L G) = 0 ∧ (∀ q, q < L.1 → fsK (gKe G) q < (gKe G).length ∧ ((gKe G).getD (fsK (gKe G) q) 0).testBit q = true ∧ ∀ i, i < fsK (gKe G) q → ((gKe G).getD i 0).testBit q = false) ∧
    (∀ i, i < (gKe G).length → ∃ s, s < L.2.1 ∧ sOB 2 L.1 (keF L G) (whL L) s = (gKe G).getD i 0) := by
  obtain ⟨k1, k2, k3, k4, k5, k6, k7, k8, k9, k10, k11⟩ := hK
  obtain ⟨v1, v2, v3⟩ := hV
  obtain ⟨vo, vl⟩ := v3 h8
  have hs4 := hL.2.1.2.1
  have hlen : (gKe G).length = L.2.1 := by omega
  have hcv : ∀ q, q < L.1 → cvN (gKe G) q = 1 := fun q hq => by
    have := v2 q hq
    rw [vo, Nat.zero_testBit, if_neg (by decide)] at this
    omega
  have hfs : ∀ q, q < L.1 → fsK (gKe G) q < (gKe G).length ∧ ((gKe G).getD (fsK (gKe G) q) 0).testBit q = true ∧ ∀ i, i < fsK (gKe G) q → ((gKe G).getD i 0).testBit q = false := fun q hq => fsK_at (by rw [hcv q hq]; exact Nat.le_refl 1)
  have hD4 : ∀ q, fsK (gKe G) q % 4 < 4 := fun q => Nat.mod_lt _ (by decide)
  have hDe : ∀ q, q < L.1 → fsK (gKe G) q % 4 = fsK (gKe G) q := fun q hq => Nat.mod_eq_of_lt (by have := (hfs q hq).1; omega)
  obtain ⟨o1, o2, o3, o4⟩ := rnF_ok hD4 L.1
  obtain ⟨r1, r2, r3, r4⟩ := rn_all hD4 (o := whL L) L.1 (fun q hq => by rw [tb_wh, decide_eq_true hq])
  -- a seat's parish
  have hpar : ∀ i, i < (gKe G).length → ∃ q, q < L.1 ∧ fsK (gKe G) q = i := fun i hi => by
    have hgi : (gKe G)[i]? = some ((gKe G).getD i 0) := by
      simp only [List.getD]
      rw [List.getElem?_eq_getElem hi]; rfl
    obtain ⟨s1, s2⟩ := k7 _ (List.mem_of_getElem? hgi)
    have hex : ∃ q, q < L.1 ∧ ((gKe G).getD i 0).testBit q = true := by
      refine Classical.byContradiction (fun hno => ?_)
      have : (gKe G).getD i 0 = 0 := eq0_of s1 (fun q hq => by
        cases hb : ((gKe G).getD i 0).testBit q with
        | false => rfl
        | true => exact absurd ⟨q, hq, hb⟩ hno)
      omega
    obtain ⟨q, hq, hb⟩ := hex
    obtain ⟨f1, f2, f3⟩ := hfs q hq
    refine ⟨q, hq, ?_⟩
    rcases (show fsK (gKe G) q < i ∨ fsK (gKe G) q = i ∨ i < fsK (gKe G) q by omega) with z | z | z
    · exact (cv_one (by rw [hcv q hq]; exact Nat.le_refl 1) z hi f2 hb).elim
    · exact z
    · have := f3 i z; rw [this] at hb; cases hb
  have hcnt : (rnF (fun q => fsK (gKe G) q % 4) L.1).2.1 = L.2.1 := by
    rw [o1, cnO_eq (S := L.2.1) 4 (fun i hi => ?_)]
    · omega
    · constructor
      · intro h
        obtain ⟨y, hy⟩ := Option.isSome_iff_exists.mp h
        obtain ⟨q, q1, q2⟩ := r3 i y hy
        have q2 : fsK (gKe G) q % 4 = i := q2
        have := (hfs q q1).1
        rw [hDe q q1] at q2; omega
      · intro h
        obtain ⟨q, q1, q2⟩ := hpar i (by omega)
        have := r2 q q1
        have this : (rnF (fun q => fsK (gKe G) q % 4) L.1).1 (fsK (gKe G) q % 4) = _ := this
        rw [hDe q q1, q2] at this
        rw [this]; rfl
  rw [hcnt] at r1
  have hseat : ∀ i, i < (gKe G).length → ∃ s, s < L.2.1 ∧ sOB 2 L.1 (keF L G) (whL L) s = (gKe G).getD i 0 := fun i hi => by
    obtain ⟨q, q1, q2⟩ := hpar i hi
    have hname := r2 q q1
    have hname : (rnF (fun q => fsK (gKe G) q % 4) L.1).1 (fsK (gKe G) q % 4) = some (dgB 2 L.1 (keF L G) q) := hname
    rw [hDe q q1, q2] at hname
    have hyn := o2 _ _ hname
    refine ⟨dgB 2 L.1 (keF L G) q, by omega, ?_⟩
    apply Nat.eq_of_testBit_eq
    intro j
    rw [tb_sOB, tb_wh]
    have hgi : (gKe G)[i]? = some ((gKe G).getD i 0) := by
      simp only [List.getD]
      rw [List.getElem?_eq_getElem hi]; rfl
    obtain ⟨s1, s2⟩ := k7 _ (List.mem_of_getElem? hgi)
    by_cases hj : j < L.1
    · rw [decide_eq_true hj, Bool.true_and, Bool.true_and]
      obtain ⟨f1, f2, f3⟩ := hfs j hj
      have hnj := r2 j hj
      have hnj : (rnF (fun q => fsK (gKe G) q % 4) L.1).1 (fsK (gKe G) j % 4) = some (dgB 2 L.1 (keF L G) j) := hnj
      rw [hDe j hj] at hnj
      by_cases he : fsK (gKe G) j = i
      · rw [he, hname] at hnj
        have : dgB 2 L.1 (keF L G) j = dgB 2 L.1 (keF L G) q := by
          have := Option.some.inj hnj; exact this.symm
        rw [decide_eq_true this, ← he, f2]
      · have hne : dgB 2 L.1 (keF L G) j ≠ dgB 2 L.1 (keF L G) q := fun z => he (r4 _ _ _ hnj (by rw [z]; exact hname))
        rw [decide_eq_false hne]
        cases hb : ((gKe G).getD i 0).testBit j with
        | false => rfl
        | true =>
          rcases (show fsK (gKe G) j < i ∨ i < fsK (gKe G) j by omega) with z | z
          · exact (cv_one (by rw [hcv j hj]; exact Nat.le_refl 1) z hi f2 hb).elim
          · have := f3 i z; rw [this] at hb; cases hb
    · rw [decide_eq_false hj, Bool.false_and]
      exact (Nat.testBit_lt_two_pow (Nat.lt_of_lt_of_le s1 (Nat.pow_le_pow_right (by decide) (by omega)))).symm
  refine ⟨o3, ?_, hfs, hseat⟩
  rw [jdL_ic]
  refine ⟨r1, fun s hs => ?_⟩
  -- the seat s is one that was kept
  obtain ⟨q, q1, -, q3⟩ := nuF_has r1 s hs
  obtain ⟨f1, f2, f3⟩ := hfs q q1
  obtain ⟨s', -, hs'⟩ := hseat (fsK (gKe G) q) f1
  have hgi : (gKe G)[fsK (gKe G) q]? = some ((gKe G).getD (fsK (gKe G) q) 0) := by
    simp only [List.getD]
    rw [List.getElem?_eq_getElem f1]; rfl
  have hin : (sOB 2 L.1 (keF L G) (whL L) s').testBit q = true := by rw [hs']; exact f2
  rw [tb_sOB] at hin
  simp only [Bool.and_eq_true, decide_eq_true_eq] at hin
  have hss : s' = s := by rw [← hin.2.2]; exact q3
  subst hss
  show faL L (sOB 2 L.1 (keF L G) (whL L) s') = 0
  rw [hs']
  exact v1 _ (List.mem_of_getElem? hgi)
/-- the game played at its best by goal 0 -/
def edF (L : LandT) (P : ProT) : Nat → GamT → GamT
  | 0, G => G
  | f + 1, G => if 8 ≤ gPh G then G else match sbF L P 0 false G with
    | none => G
    | some q => edF L P f (mvG L P G q.2)
def enG (L : LandT) (P : ProT) : GamT := edF L P 9 (stG L P)
/-- ENDED, if there is such a cut -/
def enL (L : LandT) (P : ProT) : Option Nat := if gPh (enG L P) = 9 then none else some (keF L (enG L P))
theorem edF_ok {L : LandT} {P : ProT} (hL : LdOK L) (hO : ProOK P) : ∀ (f : Nat) (G : GamT), GOK L P G → GCV L G → GNE L G → muG L G < f → GOK L P (edF L P f G) ∧ GCV L (edF L P f G) ∧ 8 ≤ gPh (edF L P f G)
  | 0, G, _, _, _, h => by omega
  | f + 1, G, hK, hV, hN, h => by
    unfold edF
    by_cases h8 : 8 ≤ gPh G
    · rw [if_pos h8]; exact ⟨hK, hV, h8⟩
    · rw [if_neg h8]
      obtain ⟨q, hq, hm, h31⟩ := sbF_ok (g := 0) (ot := false) hL hK hN (by omega)
      rw [hq]
      dsimp only
      obtain ⟨a, b, c⟩ := mvG_ok hL hO hK hV (by omega) h31 hm
      exact edF_ok hL hO f _ a b (mvG_ne hL hK (by omega) h31 hm) (by omega)
theorem enG_ok {L : LandT} {P : ProT} (hL : LdOK L) (hO : ProOK P) : GOK L P (enG L P) ∧ GCV L (enG L P) ∧ 8 ≤ gPh (enG L P) := by
  obtain ⟨a, b, c⟩ := stG_ok hL hO
  have := hL.2.1.2.1
  exact edF_ok hL hO 9 _ a b (GNE_sr _ _) (by omega)
theorem enL_ok {L : LandT} {P : ProT} (hL : LdOK L) (hO : ProOK P) {c : Nat} (h : enL L P = some c) : c < 4 ^ L.1 ∧ jdL L c = 0 := by
  obtain ⟨a, b, h8⟩ := enG_ok hL hO
  unfold enL at h
  split at h
  · cases h
  · rename_i h9
    cases h
    have := a.1
    obtain ⟨x, y, -⟩ := keF_ok hL a b (by omega)
    exact ⟨x, y⟩
