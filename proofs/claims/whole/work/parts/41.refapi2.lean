/-! THE REFERENCE: alone, luck, far -/
/-- the first of the best by W, and the least W -/
def bsF (W : Nat → Nat) : List Nat → Option Nat → Option Nat
  | [], b => b
  | c :: xs, none => bsF W xs (some c)
  | c :: xs, some b => bsF W xs (some (if W b < W c then c else b))
def fwF (W : Nat → Nat) : List Nat → Option Nat → Option Nat
  | [], f => f
  | c :: xs, none => fwF W xs (some (W c))
  | c :: xs, some f => fwF W xs (some (min f (W c)))
def aloneL (L : LandT) (q w : Nat) : Int32 := match bsF (fun c => wiL L c q) (lsL L (whL L) L.2.1) none with
  | none => -1
  | some b => if w = 0 then nI (wiL L b q) else if w = 1 then nI ((fwF (fun c => wiL L c q) (lsL L (whL L) L.2.1) none).getD 0) else nI b
def aAlone (nl : Nat) (Ls : Nat → LandT) (l p w : Int32) : Int32 := match inN l nl with
  | none => -1
  | some k => match inN p 3 with
    | none => -1
    | some q => match inN w 3 with
      | none => -1
      | some v => aloneL (Ls k) q v
def luckL (L : LandT) (c q w : Nat) : Nat := ((lsL L (whL L) L.2.1).filter (fun x => if w = 0 then decide (wiL L c q < wiL L x q) else decide (wiL L x q < wiL L c q))).length
def aLuck (nl : Nat) (Ls : Nat → LandT) (l x p w : Int32) : Int32 := match inN p 3 with
  | none => -1
  | some q => match inN w 2 with
    | none => -1
    | some v => match wlN nl Ls l x with
      | none => -1
      | some (k, c) => nI (luckL (Ls k) c q v)
def allV (L : LandT) (k : Nat) : Nat := smF L.1 (fun p => LdV L p k)
def allN (L : LandT) : Nat := allV L 0 + allV L 1 + allV L 2
/-- how far a cut is from votes: the upper and the lower number, with all common parts -/
def farU (L : LandT) (c q : Nat) : Nat := ((wiL L c q * allN L : Nat) - (allV L q * L.2.1 : Nat) : Int).natAbs
def farD (L : LandT) : Nat := if allN L = 0 then 1 else L.2.1 * allN L
def farL (L : LandT) (c q w : Nat) : Nat := if w = 0 then farU L c q / Nat.gcd (farD L) (farU L c q) else farD L / Nat.gcd (farD L) (farU L c q)
def aFar (nl : Nat) (Ls : Nat → LandT) (l x p w : Int32) : Int32 := match inN p 3 with
  | none => -1
  | some q => match inN w 2 with
    | none => -1
    | some v => match wlN nl Ls l x with
      | none => -1
      | some (k, c) => nI (farL (Ls k) c q v)
theorem wiL_le (L : LandT) (c k : Nat) : wiL L c k ≤ L.2.1 := by
  have := smF_le (f := fun s => if wnL L (sOB 2 L.1 c (whL L) s) = k then 1 else 0) (b := 1) (fun p => by split <;> omega) L.2.1
  unfold wiL; omega
theorem allV_le {L : LandT} (hn : L.1 ≤ 9) (hv : ∀ p k, LdV L p k ≤ 99) (k : Nat) : allV L k ≤ 891 := by
  have := smF_le (f := fun p => LdV L p k) (b := 99) (fun p => hv p k) L.1
  have h2 : L.1 * 99 ≤ 9 * 99 := Nat.mul_le_mul_right _ hn
  unfold allV; omega
theorem sI_abs {a b : Nat} (ha : a < 2 ^ 30) (hb : b < 2 ^ 30) : absI (nI a - nI b) = nI ((a : Int) - b).natAbs := by
  unfold absI
  have e := pk_sub_toInt ha hb
  by_cases h : b ≤ a
  · rw [na_sub h]
    rw [if_pos (by rw [Int32.le_iff_toInt_le, nI_toInt (by omega)]; exact Int.natCast_nonneg _)]
    congr 1; omega
  · rw [if_neg (by rw [Int32.le_iff_toInt_le, e]; show ¬ (0 : Int) ≤ _; omega)]
    apply Int32.toInt_inj.mp
    rw [nI_toInt (by omega)]
    have h1 : (0 : Int32) - (nI a - nI b) = nI b - nI a := by
      first
        | rw [Int32.zero_sub, Int32.neg_sub]
        | simp
    rw [h1, pk_sub_toInt hb ha]
    omega
section API
variable {X : Cx} {d nl : Nat} {Ls : Nat → LandT} {M : Mem} {Q : Option AV → Mem → Prop}
theorem wa_alone42 {l q v : Nat} {L : LandT} (hd : 3 ≤ d) (hH : rH M l L) (hq : q < 3) (hv : v < 3) {ys : List Nat} (hlen : ys.length ≤ 8000) (hok : ∀ c, c ∈ ys → c < 4 ^ L.1 ∧ nuF 2 L.1 c (whL L) L.1 = some L.2.1) (hst : stL M 89 0 ys) :
    ∀ (xs pre : List Nat) (b : Option Nat) (f : Option Nat) (bi : Nat), ys = pre ++ xs → (b = none → f = none ∧ pre = []) → (∀ c, b = some c → ys[bi]? = some c ∧ ∃ g, f = some g ∧ g ≤ 4) →
    (match bsF (fun c => wiL L c q) xs b with
      | none => Q (some (vI (-1))) M
      | some c => Q (some (vI (if v = 0 then nI (wiL L c q) else if v = 1 then nI ((fwF (fun c => wiL L c q) xs f).getD 0) else nI c))) M) →
    WA X d 0 0 m_X11_alone 42 [some (vR 75), none, some (vI (nI q)), some (vI (nI v)), some (vI (nI ys.length)), some (vI (oI (b.map (fun _ => bi)))), some (vI (oI f)), some (vI (nI pre.length)), none] [] M Q := by
  have hb := hH.b
  have h4 := p4 hb.2.1
  have at_ : ∀ (i c : Nat), ys[i]? = some c → i < ys.length ∧ mI M 89 (ix (nI i)) = nI c ∧ c < 2 ^ 31 ∧ nuF 2 L.1 c (whL L) L.1 = some L.2.1 := by
    intro i c hi
    obtain ⟨h1, h2⟩ := List.getElem?_eq_some_iff.mp hi
    have e := hst i c hi
    rw [Nat.zero_add] at e
    have hm : c ∈ ys := by rw [← h2]; exact List.getElem_mem h1
    obtain ⟨o1, o2⟩ := hok c hm
    exact ⟨h1, by rw [na_ix (by omega)]; exact e, by omega, o2⟩
  intro xs
  induction xs with
  | nil =>
    intro pre b f bi hys hb0 hbi h
    have hl : ys.length = pre.length := by rw [hys]; simp
    cases b with
    | none =>
      simp only [bsF] at h
      exact b_X11_alone_42 hH.1 (by omega) ⟨fun _ => ⟨fun q9 => absurd rfl q9, fun _ => h⟩, fun q9 => absurd (by rw [na_le (by omega) (by omega)]; omega) q9⟩
    | some c =>
      simp only [bsF] at h
      obtain ⟨c1, g, c2, c3⟩ := hbi c rfl
      obtain ⟨i1, i2, i3, i4⟩ := at_ bi c c1
      have hin : vp_in (nI bi) 40000 := na_in (by omega) (by omega)
      refine b_X11_alone_42 hH.1 (by omega) ⟨fun _ => ⟨fun _ => ⟨fun q9 => ⟨fun q8 => ⟨hin, ?_⟩, fun q8 => ?_⟩, fun q9 => ⟨hin, ?_⟩⟩, fun q9 => absurd q9 (na_m1 (a := bi) (by omega))⟩, fun q9 => absurd (by rw [na_le (by omega) (by omega)]; omega) q9⟩
      · rw [na_eq (by omega) (by omega)] at q9 q8
        rw [if_neg q9, if_neg q8] at h
        show Q (some (vI (mI M 89 (ix (nI bi))))) M
        rw [i2]; exact h
      · rw [na_eq (by omega) (by omega)] at q9 q8
        rw [if_neg q9, if_pos q8, c2] at h
        simp only [fwF, Option.getD_some] at h
        rw [c2]; exact h
      · rw [na_eq (by omega) (by omega)] at q9
        rw [if_pos q9] at h
        show Cl X (d - 1) 0 0 m_X11_wins [vR 75, vI (mI M 89 (ix (nI bi))), vI (nI q)] M _
        rw [i2]
        exact sp_wins (by omega) hH i3 (by omega) i4 ⟨_, rfl, Ext.refl _, h⟩
  | cons c xs ih =>
    intro pre b f bi hys hb0 hbi h
    have hpl : ys[pre.length]? = some c := by rw [hys]; simp
    obtain ⟨i1, i2, i3, i4⟩ := at_ _ _ hpl
    have hys2 : ys = (pre ++ [c]) ++ xs := by rw [hys]; simp
    have hpl2 : (pre ++ [c]).length = pre.length + 1 := by simp
    have hw := wiL_le L c q
    -- the turn's end
    have h93 : ∀ (c' i' : Nat), ys[i']? = some c' → (match bsF (fun c => wiL L c q) xs (some c') with
        | none => Q (some (vI (-1))) M
        | some c0 => Q (some (vI (if v = 0 then nI (wiL L c0 q) else if v = 1 then nI ((fwF (fun c => wiL L c q) xs (some (match f with | none => wiL L c q | some g => min g (wiL L c q)))).getD 0) else nI c0))) M) →
        WA X d 0 0 m_X11_alone 93 [some (vR 75), none, some (vI (nI q)), some (vI (nI v)), some (vI (nI ys.length)), none, some (vI (oI f)), some (vI (nI pre.length)), some (vI (nI (wiL L c q)))] [vI (nI i')] M Q := by
      intro c' i' hi' hn
      refine b_X11_alone_93 hH.1 (by omega) ⟨fun q9 x1 e1 => ?_, fun q9 => ?_⟩
      · cases f with
        | none => exact absurd rfl q9
        | some g =>
          have hg : g ≤ 4 := by
            cases b with
            | none => have := (hb0 rfl).1; cases this
            | some b' => obtain ⟨-, g', e, e2⟩ := hbi b' rfl; cases e; exact e2
          have em : minI (nI g) (nI (wiL L c q)) = nI (min g (wiL L c q)) := by
            unfold minI
            by_cases q8 : wiL L c q < g
            · rw [if_pos ((na_lt (by omega) (by omega)).mpr q8), Nat.min_eq_right (by omega)]
            · rw [if_neg (fun z => q8 ((na_lt (by omega) (by omega)).mp z)), Nat.min_eq_left (by omega)]
          have e1 : x1 = nI (min g (wiL L c q)) := by rw [e1]; exact em
          rw [e1, nI_add]
          have := ih (pre ++ [c]) (some c') (some (min g (wiL L c q))) i' hys2 (fun z => by cases z) (fun c0 e0 => by cases e0; exact ⟨hi', _, rfl, by omega⟩) hn
          rw [hpl2] at this
          exact this
      · cases f with
        | some g =>
          have hg : g ≤ 4 := by
            cases b with
            | none => have := (hb0 rfl).1; cases this
            | some b' => obtain ⟨-, g', e, e2⟩ := hbi b' rfl; cases e; exact e2
          exact absurd q9 (na_m1 (by omega))
        | none =>
          rw [nI_add]
          have := ih (pre ++ [c]) (some c') (some (wiL L c q)) i' hys2 (fun z => by cases z) (fun c0 e0 => by cases e0; exact ⟨hi', _, rfl, by omega⟩) hn
          rw [hpl2] at this
          exact this
    refine b_X11_alone_42 hH.1 (by omega) ⟨fun q9 => ?_, fun _ => ⟨na_in (by omega) (by omega), ?_⟩⟩
    · rw [na_le (by omega) (by omega)] at q9; omega
    rw [i2]
    refine sp_wins (by omega) hH i3 (by omega) i4 ⟨_, rfl, Ext.refl _, fun q9 => ?_, fun q9 => ?_⟩
    · cases b with
      | some b' =>
        obtain ⟨c1, -⟩ := hbi b' rfl
        obtain ⟨j1, -⟩ := at_ _ _ c1
        exact absurd q9 (na_m1 (a := bi) (by omega))
      | none =>
        obtain ⟨rfl, -⟩ := hb0 rfl
        simp only [bsF, fwF] at h
        exact b_X11_alone_86 hH.1 (h93 c pre.length hpl h)
    · cases b with
      | none => exact absurd rfl q9
      | some b' =>
        obtain ⟨c1, g, c2, c3⟩ := hbi b' rfl
        subst c2
        obtain ⟨j1, j2, j3, j4⟩ := at_ _ _ c1
        have hw2 := wiL_le L b' q
        refine ⟨na_in (k := bi) (by omega) (by omega), ?_⟩
        show Cl X (d - 1) 0 0 m_X11_wins [vR 75, vI (mI M 89 (ix (nI bi))), vI (nI q)] M _
        rw [j2]
        simp only [bsF, fwF] at h
        refine sp_wins (by omega) hH j3 (by omega) j4 ⟨_, rfl, Ext.refl _, fun q8 => ?_, fun q8 => ?_⟩
        · rw [na_le (by omega) (by omega)] at q8
          rw [if_neg (by omega)] at h
          exact h93 b' bi c1 h
        · rw [na_le (by omega) (by omega)] at q8
          rw [if_pos (by omega)] at h
          exact b_X11_alone_86 hH.1 (h93 c pre.length hpl h)
theorem rf_alone {l p w : Int32} (hd : 13 ≤ d) (hS : RfS M) (hl : rLds M nl Ls) (h : ∀ B, Fr scS M B → Q (some (vI (aAlone nl Ls l p w))) B) : Cl X d 0 0 m_X11_alone [vR 75, vI l, vI p, vI w] M Q := by
  have h6 := hl.2.1
  unfold aAlone at h
  refine e_X11_alone (b_X11_alone_0 hS (by omega) (sp_isLand (by omega) hS hl.1 (by omega) ⟨_, rfl, Ext.refl _, fun q => ?_, fun q => ?_⟩))
  · have := bI_0.mp q
    cases hs : inN l nl with
    | none => rw [hs] at h; exact h M Fr.refl
    | some j => rw [hs] at this; cases this
  have := bI_n0.mp q
  cases hs : inN l nl with
  | none => rw [hs] at this; cases this
  | some k =>
  rw [hs] at h
  dsimp only at h
  obtain ⟨f1, f2⟩ := inN_some (by omega) hs
  subst f1
  refine sp_isParty (by omega) ⟨_, rfl, Ext.refl _, fun q => ?_, fun q => ?_⟩
  · have := bI_0.mp q
    cases hp : inN p 3 with
    | none => rw [hp] at h; exact h M Fr.refl
    | some j => rw [hp] at this; cases this
  have := bI_n0.mp q
  cases hp : inN p 3 with
  | none => rw [hp] at this; cases this
  | some j =>
  rw [hp] at h
  dsimp only at h
  obtain ⟨g1, g2⟩ := inN_some (by omega) hp
  subst g1
  refine sp_inN (n := 3) (by omega) (by decide) ⟨_, rfl, Ext.refl _, fun q => ?_, fun q => ?_⟩
  · have := bI_n0.mp q
    cases hw : inN w 3 with
    | none => rw [hw] at this; cases this
    | some v =>
    rw [hw] at h
    dsimp only at h
    obtain ⟨k1, k2⟩ := inN_some (by omega) hw
    subst k1
    have hO := (hl.2.2 k f2).1
    refine sp_listAll (by omega) hS hl f2 (fun B hF hH hst => ⟨_, rfl, hF.ext, ?_⟩)
    refine wa_alone42 (by omega) hH g2 k2 (lsL_len hO.1.2 hO.2.1.2.1) (fun c hc => ⟨(lsL_ok hO.2.1.2.1 hc).1, (lsL_ok hO.2.1.2.1 hc).2.1⟩) hst (lsL (Ls k) (whL (Ls k)) (Ls k).2.1) [] none none 0 rfl (fun _ => ⟨rfl, rfl⟩) (fun c e => by cases e) ?_
    have := h B hF
    unfold aloneL at this
    revert this
    cases bsF (fun c => wiL (Ls k) c j) (lsL (Ls k) (whL (Ls k)) (Ls k).2.1) none with
    | none => exact fun z => z
    | some c => exact fun z => z
  · have := bI_0.mp q
    cases hw : inN w 3 with
    | none => rw [hw] at h; exact h M Fr.refl
    | some j => rw [hw] at this; cases this
theorem rf_luck {l x p w : Int32} (hd : 14 ≤ d) (hS : RfS M) (hl : rLds M nl Ls) (h : ∀ B, Fr scS M B → Q (some (vI (aLuck nl Ls l x p w))) B) : Cl X d 0 0 m_X11_luck [vR 75, vI l, vI x, vI p, vI w] M Q := by
  have h6 := hl.2.1
  unfold aLuck at h
  refine e_X11_luck (b_X11_luck_0 hS (by omega) (sp_isParty (by omega) ⟨_, rfl, Ext.refl _, fun q => ?_, fun q => ?_⟩))
  · have := bI_0.mp q
    cases hp : inN p 3 with
    | none => rw [hp] at h; exact h M Fr.refl
    | some j => rw [hp] at this; cases this
  have := bI_n0.mp q
  cases hp : inN p 3 with
  | none => rw [hp] at this; cases this
  | some j =>
  rw [hp] at h
  dsimp only at h
  obtain ⟨g1, g2⟩ := inN_some (by omega) hp
  subst g1
  refine sp_inN (n := 2) (by omega) (by decide) ⟨_, rfl, Ext.refl _, fun q => ?_, fun q => ?_⟩
  · have := bI_0.mp q
    cases hw : inN w 2 with
    | none => rw [hw] at h; exact h M Fr.refl
    | some v => rw [hw] at this; cases this
  have := bI_n0.mp q
  cases hw : inN w 2 with
  | none => rw [hw] at this; cases this
  | some v =>
  rw [hw] at h
  dsimp only at h
  obtain ⟨k1, k2⟩ := inN_some (by omega) hw
  subst k1
  refine sp_isWell (by omega) hS hl (fun hc B hF => ⟨_, rfl, hF.ext, fun q => absurd rfl q, fun _ => ?_⟩) (fun k c B hc e1 e2 e3 e4 hj hF hH => ⟨_, rfl, hF.ext, fun _ => ?_, fun q => absurd q (by decide)⟩)
  · rw [hc] at h; exact h B (prS_sc hF)
  rw [hc] at h
  dsimp only at h
  subst e1
  subst e3
  have hO := hH.2.2.2.1
  have h4 := p4 hO.1.2
  have hwc := wiL_le (Ls k) c j
  have hs4 := hO.2.1.2.1
  refine sp_wins (by omega) hH (by omega) (by omega) (jdL_0 hj) ⟨_, rfl, Ext.refl _, sp_listAll (by omega) (hS.fr hF) (hl.sc (prS_sc hF)) e2 (fun B2 hF2 hH2 hst => ⟨_, rfl, hF2.ext, ?_⟩)⟩
  have hlen := lsL_len (L := Ls k) (o := whL (Ls k)) hO.1.2 hO.2.1.2.1
  have hok : ∀ c, c ∈ lsL (Ls k) (whL (Ls k)) (Ls k).2.1 → c < 4 ^ (Ls k).1 ∧ nuF 2 (Ls k).1 c (whL (Ls k)) (Ls k).1 = some (Ls k).2.1 := fun c hc => ⟨(lsL_ok hO.2.1.2.1 hc).1, (lsL_ok hO.2.1.2.1 hc).2.1⟩
  have hfin := h B2 ((prS_sc hF).trans hF2)
  unfold luckL at hfin
  revert hst hlen hok hfin
  generalize lsL (Ls k) (whL (Ls k)) (Ls k).2.1 = ys
  intro hst hlen hok hfin
  have key : ∀ (xs pre : List Nat) (a : Nat), ys = pre ++ xs → Q (some (vI (nI (a + (xs.filter (fun x => if v = 0 then decide (wiL (Ls k) c j < wiL (Ls k) x j) else decide (wiL (Ls k) x j < wiL (Ls k) c j))).length)))) B2 → WA X d 0 0 m_X11_luck 49 [some (vR 75), none, none, some (vI (nI j)), some (vI (nI v)), some (vI (nI (wiL (Ls k) c j))), some (vI (nI ys.length)), some (vI (nI a)), some (vI (nI pre.length)), none] [] B2 Q := by
    intro xs
    induction xs with
    | nil =>
      intro pre a hys hq
      have hl : ys.length = pre.length := by rw [hys]; simp
      exact b_X11_luck_49 hH2.1 (by omega) ⟨fun _ => hq, fun q9 => absurd (by rw [na_le (by omega) (by omega)]; omega) q9⟩
    | cons y xs ih =>
      intro pre a hys hq
      have hpl : ys[pre.length]? = some y := by rw [hys]; simp
      have hlt := (List.getElem?_eq_some_iff.mp hpl).1
      have hys2 : ys = (pre ++ [y]) ++ xs := by rw [hys]; simp
      have hpl2 : (pre ++ [y]).length = pre.length + 1 := by simp
      obtain ⟨o1, o2⟩ := hok y (by rw [hys]; simp)
      have e := hst _ _ hpl
      rw [Nat.zero_add] at e
      have hwy := wiL_le (Ls k) y j
      have hn := fun a' => ih (pre ++ [y]) a' hys2
      rw [hpl2] at hn
      refine b_X11_luck_49 hH2.1 (by omega) ⟨fun q9 => ?_, fun _ => ⟨na_in (by omega) (by omega), ?_⟩⟩
      · rw [na_le (by omega) (by omega)] at q9; omega
      rw [na_ix (by omega), e]
      refine sp_wins (by omega) hH2 (by omega) (by omega) o2 ⟨_, rfl, Ext.refl _, fun q9 => ⟨fun q8 x2 e2 => ?_, fun q8 x2 e2 => ?_⟩, fun q9 => ⟨fun q8 x2 e2 => ?_, fun q8 x2 e2 => ?_⟩⟩
      · rw [na_eq (by omega) (by omega)] at q9
        rw [na_le (by omega) (by omega)] at q8
        rw [e2, add0, nI_add]
        refine hn a ?_
        simp only [List.filter_cons, if_neg q9, decide_eq_false (show ¬ wiL (Ls k) y j < wiL (Ls k) c j by omega)] at hq
        simp only [if_neg q9]
        exact hq
      · rw [na_eq (by omega) (by omega)] at q9
        rw [na_le (by omega) (by omega)] at q8
        rw [e2, nI_add, nI_add]
        refine hn (a + 1) ?_
        simp only [List.filter_cons, if_neg q9, decide_eq_true (show wiL (Ls k) y j < wiL (Ls k) c j by omega), if_true, List.length_cons] at hq
        simp only [if_neg q9]
        rw [Nat.add_assoc, Nat.add_comm 1]
        exact hq
      · rw [na_eq (by omega) (by omega)] at q9
        rw [na_le (by omega) (by omega)] at q8
        rw [e2, add0, nI_add]
        refine hn a ?_
        simp only [List.filter_cons, if_pos q9, decide_eq_false (show ¬ wiL (Ls k) c j < wiL (Ls k) y j by omega)] at hq
        simp only [if_pos q9]
        exact hq
      · rw [na_eq (by omega) (by omega)] at q9
        rw [na_le (by omega) (by omega)] at q8
        rw [e2, nI_add, nI_add]
        refine hn (a + 1) ?_
        simp only [List.filter_cons, if_pos q9, decide_eq_true (show wiL (Ls k) c j < wiL (Ls k) y j by omega), if_true, List.length_cons] at hq
        simp only [if_pos q9]
        rw [Nat.add_assoc, Nat.add_comm 1]
        exact hq
  refine key ys [] 0 rfl ?_
  rw [Nat.zero_add]; exact hfin
theorem sp_divisor : ∀ (f a b d : Nat) (Q : Option AV → Mem → Prop), b < 2 ^ f → 2 * f + 1 ≤ d → f ≤ 20 → a < 2 ^ 31 → Q (some (vI (nI (Nat.gcd a b)))) M → Cl X d 0 0 m_X11_divisor [vI (nI a), vI (nI b)] M Q
  | 0, a, b, d, Q, hb, hd, hf, ha, h => by
    obtain rfl : b = 0 := by simpa using hb
    rw [Nat.gcd_zero_right] at h
    exact e_X11_divisor (b_X11_divisor_0 (by omega) ⟨fun q => absurd rfl q, fun _ => h⟩)
  | f + 1, a, b, d, Q, hb, hd, hf, ha, h => by
    have h31 : 2 ^ (f + 1) ≤ 2 ^ 20 := Nat.pow_le_pow_right (by decide) hf
    have h20 : (2 : Nat) ^ 20 = 1048576 := rfl
    rw [Nat.pow_succ] at hb h31
    rcases Nat.eq_zero_or_pos b with h0 | h0
    · subst h0
      rw [Nat.gcd_zero_right] at h
      exact e_X11_divisor (b_X11_divisor_0 (by omega) ⟨fun q => absurd rfl q, fun _ => h⟩)
    · have hr := Nat.mod_lt a h0
      have hnb : ¬ nI b = nI 0 := fun z => by rw [na_eq (by omega) (by omega)] at z; omega
      refine e_X11_divisor (b_X11_divisor_0 (by omega) ⟨fun _ => ⟨hnb, ?_⟩, fun q => absurd q hnb⟩)
      rw [na_rem ha h0 (by omega)]
      have e1 : Nat.gcd a b = Nat.gcd b (a % b) := by rw [Nat.gcd_comm a b, Nat.gcd_rec, Nat.gcd_comm]
      rw [e1] at h
      rcases Nat.eq_zero_or_pos (a % b) with h2 | h2
      · rw [h2, Nat.gcd_zero_right] at h
        rw [h2]
        exact e_X11_divisor (b_X11_divisor_0 (by omega) ⟨fun q => absurd rfl q, fun _ => ⟨_, rfl, Ext.refl _, h⟩⟩)
      · have hr2 := Nat.mod_lt b h2
        have hnr : ¬ nI (a % b) = nI 0 := fun z => by rw [na_eq (by omega) (by omega)] at z; omega
        refine e_X11_divisor (b_X11_divisor_0 (by omega) ⟨fun _ => ⟨hnr, ?_⟩, fun q => absurd q hnr⟩)
        rw [na_rem (by omega) h2 (by omega)]
        have e2 : Nat.gcd b (a % b) = Nat.gcd (a % b) (b % (a % b)) := by rw [Nat.gcd_comm b (a % b), Nat.gcd_rec, Nat.gcd_comm]
        rw [e2] at h
        refine sp_divisor f (a % b) (b % (a % b)) _ _ ?_ (by omega) (by omega) (by omega) ⟨_, rfl, Ext.refl _, ⟨_, rfl, Ext.refl _, h⟩⟩
        by_cases hc : a % b ≤ 2 ^ f
        · omega
        · have : b % (a % b) ≤ b - (a % b) := by
            have := Nat.mod_eq_sub_mod (a := b) (b := a % b) (by omega)
            rw [this]
            exact Nat.mod_le _ _
          omega
theorem sp_farOf {l c q w : Nat} {L : LandT} (hd : 32 ≤ d) (hH : rH M l L) (hc : c < 2 ^ 31) (hq : q < 3) (hw : w < 2) (hx : nuF 2 L.1 c (whL L) L.1 = some L.2.1) (h : Q (some (vI (nI (farL L c q w)))) M) : Cl X d 0 0 m_X11_farOf [vR 75, vI (nI c), vI (nI q), vI (nI w)] M Q := by
  have hb := hH.b
  obtain ⟨l1, l2, l3, l4, l5, l6, l7, l8, l9, l10⟩ := hH.2.2.2.1
  have v0 := allV_le l1.2 l5 0
  have v1 := allV_le l1.2 l5 1
  have v2 := allV_le l1.2 l5 2
  have vq := allV_le l1.2 l5 q
  have hwi := wiL_le L c q
  have hl7 := hH.2.1
  have h19 := hH.2.2.2.2.1
  have hN : allN L ≤ 2673 := by unfold allN; omega
  have m1 : wiL L c q * allN L ≤ 4 * 2673 := Nat.mul_le_mul (by omega) hN
  have m2 : allV L q * L.2.1 ≤ 891 * 4 := Nat.mul_le_mul vq (by omega)
  have m3 : L.2.1 * allN L ≤ 4 * 2673 := Nat.mul_le_mul (by omega) hN
  have hD1 : 1 ≤ farD L := by
    unfold farD; split
    · exact Nat.le_refl _
    · rename_i h0; exact Nat.mul_pos hb.2.2.1 (by omega)
  have hD2 : farD L ≤ 10692 := by unfold farD; split <;> omega
  have hU : farU L c q ≤ 10692 := by unfold farU; omega
  -- the common part
  have h95 : WA X d 0 0 m_X11_farOf 95 [some (vR 75), none, none, some (vI (nI w)), none, some (vI (nI (farU L c q))), none, none] [vI (nI (farD L))] M Q := by
    have hg0 : 0 < Nat.gcd (farD L) (farU L c q) := Nat.gcd_pos_of_pos_left _ hD1
    have hg1 : Nat.gcd (farD L) (farU L c q) ≤ farD L := Nat.gcd_le_left _ hD1
    have hng : ¬ nI (Nat.gcd (farD L) (farU L c q)) = nI 0 := fun z => by rw [na_eq (by omega) (by omega)] at z; omega
    unfold farL at h
    refine b_X11_farOf_95 hH.1 (by omega) (sp_divisor 14 _ _ _ _ (by omega) (by omega) (by omega) (by omega) ⟨_, rfl, Ext.refl _, fun q9 => ⟨hng, ?_⟩, fun q9 => ⟨hng, ?_⟩⟩)
    · rw [na_eq (by omega) (by omega)] at q9
      rw [if_neg q9] at h
      rw [pk_div (by omega) hg0 (by omega)]; exact h
    · rw [na_eq (by omega) (by omega)] at q9
      rw [if_pos q9] at h
      rw [pk_div (by omega) hg0 (by omega)]; exact h
  have h72 : WA X d 0 0 m_X11_farOf 72 [some (vR 75), none, none, some (vI (nI w)), some (vI (nI (allN L))), none, none, none] [vI (nI (farU L c q))] M Q := by
    refine b_X11_farOf_72 hH.1 ⟨fun q9 => ⟨hH.i, ?_⟩, fun q9 => ?_⟩
    · rw [na_eq (by omega) (by omega)] at q9
      rw [hH.s, pk_mul]
      unfold farD at h95; rw [if_neg q9] at h95; exact h95
    · rw [na_eq (by omega) (by omega)] at q9
      unfold farD at h95; rw [if_pos q9] at h95; exact h95
  refine e_X11_farOf (b_X11_farOf_0 hH.1 (by omega) ?_)
  rw [h19]
  refine sp_allVotes (by omega) hH.1 hl7 (by omega) hH.2.2.1 l1.2 ⟨_, rfl, Ext.refl _, ?_⟩
  rw [h19]
  refine sp_allVotes (by omega) hH.1 hl7 (by omega) hH.2.2.1 l1.2 ⟨_, rfl, Ext.refl _, ?_⟩
  rw [h19]
  refine sp_allVotes (by omega) hH.1 hl7 (by omega) hH.2.2.1 l1.2 ⟨_, rfl, Ext.refl _, fun x4 e4 => ?_⟩
  have e4 : x4 = nI (allN L) := by rw [e4, nI_add, nI_add]; rfl
  subst e4
  refine ⟨fun q9 => ?_, fun q9 => ?_⟩
  · refine sp_wins (by omega) hH hc (by omega) hx ⟨_, rfl, Ext.refl _, ?_⟩
    rw [h19]
    refine sp_allVotes (by omega) hH.1 hl7 hq hH.2.2.1 l1.2 ⟨_, rfl, Ext.refl _, hH.i, ?_⟩
    rw [hH.s, pk_mul, pk_mul]
    have e5 : absI (nI (wiL L c q * allN L) - nI (smF L.1 (fun p => LdV L p q) * L.2.1)) = nI (farU L c q) := sI_abs (by omega) (show allV L q * L.2.1 < _ by omega)
    rw [e5]
    exact h72
  · rw [na_eq (by omega) (by omega)] at q9
    have hq0 : allV L q = 0 := by
      unfold allN at q9
      rcases (show q = 0 ∨ q = 1 ∨ q = 2 by omega) with rfl | rfl | rfl <;> omega
    have e5 : farU L c q = 0 := by unfold farU; rw [hq0, q9]; simp
    rw [e5] at h72
    exact h72
theorem rf_far {l x p w : Int32} (hd : 34 ≤ d) (hS : RfS M) (hl : rLds M nl Ls) (h : ∀ B, Fr scS M B → Q (some (vI (aFar nl Ls l x p w))) B) : Cl X d 0 0 m_X11_far [vR 75, vI l, vI x, vI p, vI w] M Q := by
  have h6 := hl.2.1
  unfold aFar at h
  refine e_X11_far (b_X11_far_0 hS (by omega) (sp_isParty (by omega) ⟨_, rfl, Ext.refl _, fun q => ?_, fun q => ?_⟩))
  · have := bI_0.mp q
    cases hp : inN p 3 with
    | none => rw [hp] at h; exact h M Fr.refl
    | some j => rw [hp] at this; cases this
  have := bI_n0.mp q
  cases hp : inN p 3 with
  | none => rw [hp] at this; cases this
  | some j =>
  rw [hp] at h
  dsimp only at h
  obtain ⟨g1, g2⟩ := inN_some (by omega) hp
  subst g1
  refine sp_inN (n := 2) (by omega) (by decide) ⟨_, rfl, Ext.refl _, fun q => ?_, fun q => ?_⟩
  · have := bI_0.mp q
    cases hw : inN w 2 with
    | none => rw [hw] at h; exact h M Fr.refl
    | some v => rw [hw] at this; cases this
  have := bI_n0.mp q
  cases hw : inN w 2 with
  | none => rw [hw] at this; cases this
  | some v =>
  rw [hw] at h
  dsimp only at h
  obtain ⟨k1, k2⟩ := inN_some (by omega) hw
  subst k1
  refine sp_isWell (by omega) hS hl (fun hc B hF => ⟨_, rfl, hF.ext, fun _ => ?_, fun q => absurd rfl q⟩) (fun k c B hc e1 e2 e3 e4 hj hF hH => ⟨_, rfl, hF.ext, fun q => absurd q (by decide), fun _ => ?_⟩)
  · rw [hc] at h; exact h B (prS_sc hF)
  rw [hc] at h
  subst e3
  have h4 := p4 hH.b.2.1
  exact sp_farOf (by omega) hH (by omega) g2 k2 (jdL_0 hj) ⟨_, rfl, Ext.refl _, h B (prS_sc hF)⟩
end API
