/-! THE LIST OF LAWFUL CUTS -/
def flatR (f : Nat → List Nat) : Nat → Nat → List Nat
  | 0, _ => []
  | j + 1, s => f s ++ flatR f j (s + 1)
/-- all numbers of b bits to a digit that tell m parts of o in order: r parishes left, u parts used, c told -/
def enB (b n o m : Nat) : Nat → Nat → Nat → List Nat
  | 0, u, c => if u = m then [c] else []
  | r + 1, u, c => if o.testBit (n - (r + 1)) then flatR (fun s => enB b n o m r (max u (s + 1)) (2 ^ b * c + s)) (min (u + 1) m) 0 else enB b n o m r u (2 ^ b * c)
def lawB (L : LandT) (o m c : Nat) : Bool := decide (∀ s, s < m → faL L (sOB 2 L.1 c o s) = 0)
/-- the lawful cuts of o into m seats, in their order -/
def lsL (L : LandT) (o m : Nat) : List Nat := (enB 2 L.1 o m L.1 0 0).filter (lawB L o m)
theorem mkS_congr {f g : Nat → Bool} : ∀ {n : Nat}, (∀ q, q < n → f q = g q) → mkS n f = mkS n g
  | 0, _ => rfl
  | n + 1, h => by
    unfold mkS
    rw [mkS_congr (fun q hq => h q (by omega)), h n (by omega)]
theorem dgB_last {b p c e : Nat} (he : e < 2 ^ b) : dgB b (p + 1) (2 ^ b * c + e) p = e := by
  unfold dgB
  rw [show b * (p + 1 - 1 - p) = 0 by rw [show p + 1 - 1 - p = 0 by omega]; exact Nat.mul_zero b, Nat.shiftRight_zero, Nat.mul_add_mod, Nat.mod_eq_of_lt he]
theorem dgB_init {b p c e q : Nat} (he : e < 2 ^ b) (hq : q < p) : dgB b (p + 1) (2 ^ b * c + e) q = dgB b p c q := by
  unfold dgB
  have e1 : b * (p + 1 - 1 - q) = b + b * (p - 1 - q) := by
    rw [show p + 1 - 1 - q = (p - 1 - q) + 1 by omega, Nat.mul_succ, Nat.add_comm]
  rw [e1, Nat.shiftRight_add]
  congr 2
  rw [Nat.shiftRight_eq_div_pow, Nat.mul_add_div (Nat.two_pow_pos b), Nat.div_eq_of_lt he, Nat.add_zero]
theorem sOB_succ {b p c e o s : Nat} (he : e < 2 ^ b) : sOB b (p + 1) (2 ^ b * c + e) o s = if o.testBit p && decide (e = s) then sOB b p c o s ||| 2 ^ p else sOB b p c o s := by
  unfold sOB
  conv => lhs; unfold mkS
  have e1 : mkS p (fun q => o.testBit q && decide (dgB b (p + 1) (2 ^ b * c + e) q = s)) = mkS p (fun q => o.testBit q && decide (dgB b p c q = s)) := mkS_congr (fun q hq => by simp only [dgB_init he hq])
  rw [e1]
  simp only [dgB_last he]
theorem dif_or {a p : Nat} (h : a < 2 ^ p) : dif (a ||| 2 ^ p) (2 ^ p) = a := by
  apply Nat.eq_of_testBit_eq
  intro i
  rw [tb_dif, Nat.testBit_or, Nat.testBit_two_pow]
  by_cases hi : p = i
  · subst hi
    rw [Nat.testBit_lt_two_pow h]; simp
  · simp [hi]
/-- the numbers xs stand in the cell a from base on -/
def stL (B : Mem) (a base : Nat) (xs : List Nat) : Prop := ∀ k x, xs[k]? = some x → mI B a (base + k) = nI x
theorem stL_nil {B : Mem} {a base : Nat} : stL B a base [] := fun k x h => by simp at h
theorem stL_snoc {B : Mem} {a base : Nat} {xs : List Nat} {x : Nat} (h : stL B a base xs) : stL (sI B a (base + xs.length) (nI x)) a base (xs ++ [x]) := by
  intro k y hk
  rw [mI_sI]
  by_cases hl : k = xs.length
  · subst hl
    simp at hk
    rw [if_pos ⟨rfl, rfl⟩, hk]
  · have hlt : k < xs.length := by
      have := (List.getElem?_eq_some_iff.mp hk).1
      simp at this; omega
    rw [if_neg (by omega)]
    rw [List.getElem?_append_left hlt] at hk
    exact h k y hk
theorem stL.fr {S : Nat → Nat → Prop} {M B : Mem} {a base : Nat} {xs : List Nat} (h : stL M a base xs) (hF : Fr S M B) (hS : ∀ k, k < xs.length → ¬ S a (base + k)) : stL B a base xs := by
  intro k x hk
  rw [hF.at (hS k (List.getElem?_eq_some_iff.mp hk).1)]
  exact h k x hk
def lfS (lv a k : Nat) : Prop := (a = 89 ∧ 8000 * lv ≤ k ∧ k < 8000 * lv + 8000) ∨ (a = 90 ∧ 8 * lv ≤ k ∧ k < 8 * lv + 8) ∨ (a = 75 ∧ k = 22)
theorem rH.lf {M B : Mem} {l lv : Nat} {L : LandT} (h : rH M l L) (hF : Fr (lfS lv) M B) : rH B l L :=
  h.fr hF (fun a i h1 h2 q => by unfold lfS at q; omega) (fun q => by unfold lfS at q; omega) (fun i q => by unfold lfS at q; omega) (fun i q => by unfold lfS at q; omega)
theorem flatR_snoc (f : Nat → List Nat) : ∀ j s, flatR f (j + 1) s = flatR f j s ++ f (s + j)
  | 0, s => by simp [flatR]
  | j + 1, s => by
    have := flatR_snoc f j (s + 1)
    rw [flatR, this, flatR, List.append_assoc]
    congr 3; omega
theorem flatR_len {f : Nat → List Nat} {b : Nat} : ∀ j s, (∀ k, s ≤ k → k < s + j → (f k).length ≤ b) → (flatR f j s).length ≤ j * b
  | 0, s, _ => by simp [flatR]
  | j + 1, s, h => by
    have h1 := flatR_len (f := f) (b := b) j (s + 1) (fun k a c => h k (by omega) (by omega))
    have h2 := h s (by omega) (by omega)
    simp only [flatR, List.length_append, Nat.succ_mul]; omega
def wE (m : Nat) : Nat → Nat → Nat
  | 0, u => if u = m then 1 else 0
  | r + 1, u => max (wE m r u) (if u < m then u * wE m r u + wE m r (u + 1) else m * wE m r u)
theorem enB_len {b n o m : Nat} : ∀ r u c, (enB b n o m r u c).length ≤ wE m r u
  | 0, u, c => by unfold enB wE; split <;> simp
  | r + 1, u, c => by
    unfold enB wE
    split
    · refine Nat.le_trans ?_ (Nat.le_max_right _ _)
      split
      · rename_i hu
        rw [show min (u + 1) m = u + 1 by omega, flatR_snoc, List.length_append]
        refine Nat.add_le_add (flatR_len u 0 (fun k h1 h2 => ?_)) ?_
        · rw [show max u (k + 1) = u by omega]; exact enB_len r u _
        · rw [show max u (0 + u + 1) = u + 1 by omega]; exact enB_len r (u + 1) _
      · rw [show min (u + 1) m = m by omega]
        refine flatR_len m 0 (fun k h1 h2 => ?_)
        rw [show max u (k + 1) = u by omega]; exact enB_len r u _
    · exact Nat.le_trans (enB_len r u _) (Nat.le_max_left _ _)
theorem wE_dec : ∀ r, r < 10 → ∀ m, m < 5 → wE m r 0 ≤ 8000 := by decide +kernel
theorem lsL_len {L : LandT} {o m : Nat} (hn : L.1 ≤ 9) (hm : m ≤ 4) : (lsL L o m).length ≤ 8000 :=
  Nat.le_trans (List.length_filter_le _ _) (Nat.le_trans (enB_len _ _ _) (wE_dec _ (by omega) _ (by omega)))
section LIST
variable {X : Cx} {l lv o m : Nat} {L : LandT}
theorem wa_lf30 {d c : Nat} {M : Mem} {Q : Option AV → Mem → Prop} {acc : List Nat} (hlv : lv < 5) (hm : m ≤ 4) (hH : rH M l L) (hc : c < 2 ^ 31) (hpt : ∀ s, s < 8 → mI M 90 (8 * lv + s) = nI (sOB 2 L.1 c o s)) (h22 : mI M 75 22 = nI acc.length) (hst : stL M 89 (8000 * lv) acc) (hlen : acc.length + (if lawB L o m c then 1 else 0) ≤ 8000) (hps : ∀ s, s < m → 1 ≤ sOB 2 L.1 c o s)
    (h : ∀ B : Mem, Fr (lfS lv) M B → (∀ s, s < 8 → mI B 90 (8 * lv + s) = nI (sOB 2 L.1 c o s)) → mI B 75 22 = nI (acc ++ (if lawB L o m c then [c] else [])).length → stL B 89 (8000 * lv) (acc ++ (if lawB L o m c then [c] else [])) → Q none B) :
    ∀ r s, s + r = m → (∀ s', s' < s → faL L (sOB 2 L.1 c o s') = 0) → WA X d 0 0 m_X11_listFrom 30 [some (vR 75), some (vI (nI lv)), none, none, some (vI (nI m)), none, some (vI (nI c)), some (vI (nI 1)), some (vI (nI s))] [] M Q := by
  have hb := hH.b
  have h512 := p9 hb.2.1
  intro r
  induction r with
  | zero =>
    intro s hs hall
    obtain rfl : s = m := by omega
    have hlaw : lawB L o s c = true := decide_eq_true hall
    rw [hlaw] at hlen h
    simp only [if_true] at hlen h
    refine b_X11_listFrom_30 hH.1 ⟨fun _ => ?_, fun q => absurd (by rw [na_le (by omega) (by omega)]; omega) q⟩
    have e : nI 8000 * nI lv + mI M 75 22 = nI (8000 * lv + acc.length) := by rw [h22, pk_mul, nI_add]
    refine b_X11_listFrom_75 hH.1 ⟨fun q => absurd q (by decide), fun _ => ⟨by rw [e]; exact na_in (by omega) (by omega), fun M1 e1 M2 e2 => ?_⟩⟩
    rw [e, na_ix (by omega)] at e1
    have hF1 : Fr (lfS lv) M M1 := by rw [e1]; exact Fr.sI (Or.inl ⟨rfl, by omega, by omega⟩)
    have hF2 : Fr (lfS lv) M M2 := by rw [e2]; exact hF1.trans (Fr.sI (Or.inr (Or.inr ⟨rfl, rfl⟩)))
    refine h M2 hF2 (fun s hs => ?_) ?_ ?_
    · rw [e2, mI_sI_a (by decide), e1, mI_sI_a (by decide)]; exact hpt s hs
    · rw [e2, mI_sI_eq, e1, mI_sI_a (by decide), h22, nI_add]; simp
    · intro k x hk
      rw [e2, mI_sI_a (by decide), e1]
      exact stL_snoc hst k x hk
  | succ r ih =>
    intro s hs hall
    have e : nI 8 * nI lv + nI s = nI (8 * lv + s) := by rw [pk_mul, nI_add]
    have hl := sOB_lt 2 L.1 c o s
    have hp := hps s (by omega)
    have hfl := faL_le L (sOB 2 L.1 c o s)
    have er : mI M 90 (ix (nI 8 * nI lv + nI s)) = nI (sOB 2 L.1 c o s) := by rw [e, na_ix (by omega)]; exact hpt s (by omega)
    refine b_X11_listFrom_30 hH.1 ⟨fun q => ?_, fun _ => ⟨fun q => absurd q (by decide), fun _ => ⟨by rw [e]; exact na_in (by omega) (by omega), by rw [er]; exact na_in (by omega) (by omega), fun q => ?_, fun q => ?_⟩⟩⟩
    · rw [na_le (by omega) (by omega)] at q; omega
    · rw [er, na_ix (by omega), (hH.2.2.2.2.2 _ hp hl).1, na_eq (by omega) (by omega)] at q
      have hlaw : lawB L o m c = false := decide_eq_false (fun z => q (z s (by omega)))
      rw [hlaw] at h
      simp only [Bool.false_eq_true, if_false, List.append_nil] at h
      have h75 : WA X d 0 0 m_X11_listFrom 75 [some (vR 75), some (vI (nI lv)), none, none, none, none, some (vI (nI c)), some (vI (nI 0)), none] [] M Q :=
        b_X11_listFrom_75 hH.1 ⟨fun _ => h M Fr.refl hpt h22 hst, fun q => absurd rfl q⟩
      refine b_X11_listFrom_30 hH.1 ⟨fun _ => h75, fun _ => ⟨fun _ => h75, fun q => absurd rfl q⟩⟩
    · rw [er, na_ix (by omega), (hH.2.2.2.2.2 _ hp hl).1, na_eq (by omega) (by omega)] at q
      rw [nI_add]
      refine ih (s + 1) (by omega) (fun s' hs' => ?_)
      rcases (show s' < s ∨ s' = s by omega) with q9 | q9
      · exact hall s' q9
      · rw [q9]; exact q
theorem sp_listFrom (hlv : lv < 5) (ho : o < 2 ^ L.1) (hm : m ≤ 4) : ∀ (r p u c d : Nat) (M : Mem) (Q : Option AV → Mem → Prop) (acc : List Nat), p + r = L.1 → r + 1 ≤ d → rH M l L → u ≤ p → c < 4 ^ p → (∀ s, s < 8 → mI M 90 (8 * lv + s) = nI (sOB 2 p c o s)) → (∀ s, s < u → 1 ≤ sOB 2 p c o s) → mI M 75 22 = nI acc.length → stL M 89 (8000 * lv) acc →
    acc.length + ((enB 2 L.1 o m r u c).filter (lawB L o m)).length ≤ 8000 →
    (∀ B : Mem, Fr (lfS lv) M B → (∀ s, s < 8 → mI B 90 (8 * lv + s) = nI (sOB 2 p c o s)) → mI B 75 22 = nI (acc ++ (enB 2 L.1 o m r u c).filter (lawB L o m)).length → stL B 89 (8000 * lv) (acc ++ (enB 2 L.1 o m r u c).filter (lawB L o m)) → Q none B) →
    Cl X d 0 0 m_X11_listFrom [vR 75, vI (nI lv), vI (nI p), vI (nI o), vI (nI m), vI (nI u), vI (nI c)] M Q := by
  intro r
  induction r with
  | zero =>
    intro p u c d M Q acc hp hd hH hu hc hpt hps h22 hst hlen h
    obtain rfl : p = L.1 := by omega
    have hb := hH.b
    have h512 := p9 hb.2.1
    have h4 := p4 hb.2.1
    refine e_X11_listFrom (b_X11_listFrom_0 hH.1 (by omega) ⟨hH.i, fun q => absurd (by rw [hH.n]) q, fun _ => ⟨fun q => ?_, fun q => ?_⟩⟩)
    · rw [na_eq (by omega) (by omega)] at q
      simp only [enB, if_neg q, List.filter_nil, List.append_nil] at h
      have h75 : WA X d 0 0 m_X11_listFrom 75 [some (vR 75), some (vI (nI lv)), none, none, none, none, some (vI (nI c)), some (vI (nI 0)), none] [] M Q :=
        b_X11_listFrom_75 hH.1 ⟨fun _ => h M Fr.refl hpt h22 hst, fun q => absurd rfl q⟩
      exact b_X11_listFrom_30 hH.1 ⟨fun _ => h75, fun _ => ⟨fun _ => h75, fun q => absurd rfl q⟩⟩
    · rw [na_eq (by omega) (by omega)] at q
      subst q
      have ef : (enB 2 L.1 o u 0 u c).filter (lawB L o u) = if lawB L o u c then [c] else [] := by
        simp only [enB, if_true, List.filter_cons, List.filter_nil]
      rw [ef] at h hlen
      refine wa_lf30 hlv hm hH (by omega) hpt h22 hst ?_ hps h u 0 (by omega) (fun s' hs' => by omega)
      cases q : lawB L o u c with
      | true => rw [q] at hlen; simpa using hlen
      | false => rw [q] at hlen; simpa using hlen
  | succ r ih =>
    intro p u c d M Q acc hp hd hH hu hc hpt hps h22 hst hlen h
    have hb := hH.b
    have h512 := p9 hb.2.1
    have h4 := p4 hb.2.1
    have hop : L.1 - (r + 1) = p := by omega
    have hc4 : 4 ^ (p + 1) ≤ 262144 := p4 (by omega)
    rw [Nat.pow_succ] at hc4
    refine e_X11_listFrom (b_X11_listFrom_0 hH.1 (by omega) ⟨hH.i, fun _ => ⟨fun hb2 => ?_, fun hb2 => ?_⟩, fun q => ?_⟩)
    · rw [bit0 (by omega) (by omega)] at hb2
      have hb2 : o.testBit p = true := by simpa using hb2
      have een : enB 2 L.1 o m (r + 1) u c = flatR (fun s => enB 2 L.1 o m r (max u (s + 1)) (2 ^ 2 * c + s)) (min (u + 1) m) 0 := by
        conv => lhs; unfold enB
        rw [hop, if_pos hb2]
      rw [een] at h hlen
      have loop : ∀ (j s : Nat) (B : Mem) (acc' : List Nat), s + j = min (u + 1) m → Fr (lfS lv) M B → (∀ s, s < 8 → mI B 90 (8 * lv + s) = nI (sOB 2 p c o s)) → mI B 75 22 = nI acc'.length → stL B 89 (8000 * lv) acc' →
          acc' ++ (flatR (fun s => enB 2 L.1 o m r (max u (s + 1)) (2 ^ 2 * c + s)) j s).filter (lawB L o m) = acc ++ (flatR (fun s => enB 2 L.1 o m r (max u (s + 1)) (2 ^ 2 * c + s)) (min (u + 1) m) 0).filter (lawB L o m) →
          WA X d 0 0 m_X11_listFrom 137 [some (vR 75), some (vI (nI lv)), some (vI (nI p)), some (vI (nI o)), some (vI (nI m)), some (vI (nI u)), some (vI (nI c)), some (vI (nI s)), none] [] B Q := by
        intro j
        induction j with
        | zero =>
          intro s B acc' hs hF hptB h22B hstB he
          simp only [flatR, List.filter_nil, List.append_nil] at he
          rw [← he] at h
          have hHB := hH.lf hF
          have hdone := h B hF hptB h22B hstB
          refine b_X11_listFrom_137 hHB.1 (by omega) ⟨fun _ => hdone, fun q => ⟨fun _ => hdone, fun q2 => ?_⟩⟩
          rw [na_lt (by omega) (by omega)] at q
          rw [na_le (by omega) (by omega)] at q2
          omega
        | succ j jh =>
          intro s B acc' hs hF hptB h22B hstB he
          have hHB := hH.lf hF
          have e : nI 8 * nI lv + nI s = nI (8 * lv + s) := by rw [pk_mul, nI_add]
          have hin : vp_in (nI (8 * lv + s)) 40 := na_in (by omega) (by omega)
          have hx : ix (nI (8 * lv + s)) = 8 * lv + s := na_ix (by omega)
          have hsl := sOB_lt 2 p c o s
          refine b_X11_listFrom_137 hHB.1 (by omega) ⟨fun q => ?_, fun _ => ⟨fun q => ?_, fun _ => ?_⟩⟩
          · rw [na_lt (by omega) (by omega)] at q; omega
          · rw [na_le (by omega) (by omega)] at q; omega
          rw [e, hx]
          refine ⟨hin, hin, fun M1 e1 => ?_⟩
          rw [hptB s (by omega), na_1shl (by omega), na_or] at e1
          have hF1 : Fr (lfS lv) M M1 := by rw [e1]; exact hF.trans (Fr.sI (Or.inr (Or.inl ⟨rfl, by omega, by omega⟩)))
          have emax : maxI (nI u) (nI s + nI 1) = nI (max u (s + 1)) := by
            rw [nI_add]
            unfold maxI
            by_cases q : u < s + 1
            · rw [if_pos ((na_lt (by omega) (by omega)).mpr q), Nat.max_eq_right (by omega)]
            · rw [if_neg (fun z => q ((na_lt (by omega) (by omega)).mp z)), Nat.max_eq_left (by omega)]
          have enum : nI 4 * nI c + nI s = nI (2 ^ 2 * c + s) := by rw [pk_mul, nI_add]
          rw [emax, enum, nI_add]
          have hs3 : s < 2 ^ 2 := by omega
          have hpt1 : ∀ k, k < 8 → mI M1 90 (8 * lv + k) = nI (sOB 2 (p + 1) (2 ^ 2 * c + s) o k) := by
            intro k hk
            rw [sOB_succ hs3, e1, mI_sI]
            by_cases hks : k = s
            · subst hks; simp [hb2]
            · rw [if_neg (by omega), hptB k hk, if_neg (by simp [show ¬ s = k by omega])]
          simp only [flatR, List.filter_append] at he
          refine ih (p + 1) (max u (s + 1)) (2 ^ 2 * c + s) (d - 1) M1 _ acc' (by omega) (by omega) (hH.lf hF1) (by omega) ?_ hpt1 ?_ ?_ ?_ ?_ (fun M2 hF2 hpt2 h222 hst2 => ⟨rfl, hF2.ext, hin, hin, fun M3 e3 => ?_⟩)
          · rw [Nat.pow_succ]; omega
          · intro k hk
            rw [sOB_succ hs3]
            by_cases hks : s = k
            · subst hks
              simp only [hb2, decide_true, Bool.and_self, if_true]
              exact Nat.le_trans (Nat.one_le_two_pow) Nat.right_le_or
            · rw [if_neg (by simp [hks])]
              exact hps k (by omega)
          · rw [e1, mI_sI_a (by decide)]; exact h22B
          · intro k x hk
            rw [e1, mI_sI_a (by decide)]; exact hstB k x hk
          · have := congrArg List.length he
            simp only [List.length_append] at this
            omega
          · rw [hpt2 s (by omega), sOB_succ hs3, na_1shl (by omega), na_dif] at e3
            simp only [hb2, decide_true, Bool.and_self, if_true] at e3
            rw [dif_or hsl] at e3
            have hF3 : Fr (lfS lv) M M3 := by rw [e3]; exact (hF1.trans hF2).trans (Fr.sI (Or.inr (Or.inl ⟨rfl, by omega, by omega⟩)))
            rw [nI_add]
            refine jh (s + 1) M3 (acc' ++ List.filter (lawB L o m) (enB 2 L.1 o m r (max u (s + 1)) (2 ^ 2 * c + s))) (by omega) hF3 (fun k hk => ?_) ?_ ?_ ?_
            · rw [e3, mI_sI]
              by_cases hks : k = s
              · subst hks; simp
              · rw [if_neg (by omega), hpt2 k hk, sOB_succ hs3, if_neg (by simp [show ¬ s = k by omega])]
            · rw [e3, mI_sI_a (by decide)]; exact h222
            · intro k x hk
              rw [e3, mI_sI_a (by decide)]; exact hst2 k x hk
            · rw [List.append_assoc]; exact he
      exact loop (min (u + 1) m) 0 M acc (by omega) Fr.refl hpt h22 hst rfl
    · rw [bit0 (by omega) (by omega)] at hb2
      have een : enB 2 L.1 o m (r + 1) u c = enB 2 L.1 o m r u (2 ^ 2 * c) := by
        conv => lhs; unfold enB
        rw [hop, hb2]; rfl
      rw [een] at h hlen
      have es : ∀ s, sOB 2 (p + 1) (2 ^ 2 * c) o s = sOB 2 p c o s := fun s => by
        have := sOB_succ (b := 2) (p := p) (c := c) (e := 0) (o := o) (s := s) (by decide)
        rw [Nat.add_zero, hb2] at this
        simpa using this
      rw [nI_add, show nI 4 * nI c = nI (2 ^ 2 * c) by rw [pk_mul]]
      refine ih (p + 1) u (2 ^ 2 * c) (d - 1) M _ acc (by omega) (by omega) hH (by omega) ?_ (fun s hs => ?_) (fun s hs => ?_) h22 hst hlen (fun B hF hptB h22B hstB => ⟨rfl, hF.ext, h B hF (fun s hs => ?_) h22B hstB⟩)
      · rw [Nat.pow_succ]; omega
      · rw [es]; exact hpt s hs
      · rw [es]; exact hps s hs
      · rw [← es]; exact hptB s hs
    · rw [hH.n, na_eq (by omega) (by omega)] at q; omega
theorem sp_list {d : Nat} {M : Mem} {Q : Option AV → Mem → Prop} (hd : 11 ≤ d) (hlv : lv < 5) (ho : o < 2 ^ L.1) (hm : m ≤ 4) (hH : rH M l L) (h : ∀ B : Mem, Fr (lfS lv) M B → stL B 89 (8000 * lv) (lsL L o m) → Q (some (vI (nI (lsL L o m).length))) B) : Cl X d 0 0 m_X11_list [vR 75, vI (nI lv), vI (nI o), vI (nI m)] M Q := by
  have hb := hH.b
  have key : ∀ r s (B : Mem), s + r = 8 → Fr (lfS lv) M B → mI B 75 22 = nI 0 → (∀ k, k < s → mI B 90 (8 * lv + k) = nI 0) → WA X d 0 0 m_X11_list 8 [some (vR 75), some (vI (nI lv)), some (vI (nI o)), some (vI (nI m)), some (vI (nI s))] [] B Q := by
    intro r
    induction r with
    | zero =>
      intro s B hs hF h22 hpt
      obtain rfl : s = 8 := by omega
      refine b_X11_list_8 (hH.lf hF).1 (by omega) ⟨fun _ => ?_, fun q => absurd (by decide) q⟩
      refine sp_listFrom hlv ho hm L.1 0 0 0 (d - 1) B _ [] (by omega) (by omega) (hH.lf hF) (by omega) (by decide) (fun s hs => hpt s hs) (fun s hs => by omega) h22 stL_nil ?_ (fun B2 hF2 _ h222 hst2 => ⟨rfl, hF2.ext, ?_⟩)
      · have := lsL_len (L := L) (o := o) hb.2.1 hm
        simp only [List.length_nil, Nat.zero_add]; exact this
      · rw [h222]
        exact h B2 (hF.trans hF2) hst2
    | succ r ih =>
      intro s B hs hF h22 hpt
      have e : nI 8 * nI lv + nI s = nI (8 * lv + s) := by rw [pk_mul, nI_add]
      refine b_X11_list_8 (hH.lf hF).1 (by omega) ⟨fun q => ?_, fun _ => ⟨by rw [e]; exact na_in (by omega) (by omega), fun M2 e2 => ?_⟩⟩
      · rw [na_le (by omega) (by omega)] at q; omega
      · rw [e, na_ix (by omega)] at e2
        rw [nI_add]
        refine ih (s + 1) M2 (by omega) (by rw [e2]; exact hF.trans (Fr.sI (Or.inr (Or.inl ⟨rfl, by omega, by omega⟩)))) (by rw [e2, mI_sI_a (by decide)]; exact h22) (fun k hk => ?_)
        rw [e2, mI_sI]
        by_cases hks : k = s
        · subst hks; simp
        · rw [if_neg (by omega)]; exact hpt k (by omega)
  refine e_X11_list (b_X11_list_0 hH.1 (fun M1 e1 => ?_))
  exact key 8 0 M1 (by omega) (by rw [e1]; exact Fr.sI (Or.inr (Or.inr ⟨rfl, rfl⟩))) (by rw [e1, mI_sI_eq]) (fun k hk => by omega)
end LIST
