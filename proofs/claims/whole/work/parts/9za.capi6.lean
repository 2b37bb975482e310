/-! THE CLASS: luck and near -/
def cLuck (s : StT) (l x p w : Int32) : Option Nat := if (inN p 3).isSome = true ∧ (inN w 2).isSome = true then (wlN (sNl s) (sLs s) l x).map (·.1) else none
def cNear (s : StT) (l x : Int32) : Option Nat := match lcN (sNl s) (sLs s) l x with
  | none => none
  | some (k, c) => if jdL (sLs s k) c = 1 ∨ (jdL (sLs s k) c = 0 ∧ seB (sLs s k) c = true) then none else some k
section API
variable {X : Cx} {d kc ns : Nat} {M : Mem} {s : StT} {T : AdT} {Q : Option AV → Mem → Prop}
theorem kp10_luck {l x p w : Int32} (hd : 7 ≤ d) (h : CI M s T) (hkc : ∀ k, cLuck s l x p w = some k → rkC T k ≤ kc ∧ rkN s T k ≤ ns) (hq : ansR M s T Q (cLuck s l x p w) (aLuck (sNl s) (sLs s) l x p w)) : Cl X d kc ns m_X10_luck [vR 1, vI l, vI x, vI p, vI w] M Q := by
  unfold aLuck at hq
  have hno : ∀ B, CI B s T → OFr M B → (cLuck s l x p w = none) → (∀ v : Int32, (∀ B T', CI B s T' → OFr M B → TR T T' → (∀ l', cLuck s l x p w = some l' → (aRm T' l').isSome = true) → Q (some (vI v)) B) → Q (some (vI v)) B) := fun B hB hO hc v hv => hv B T hB hO TR.refl (fun k hk => by rw [hc] at hk; cases hk)
  refine e_X10_luck (b_X10_luck_0 h.1.1 (by omega) (kp_withLawful (by omega) h (fun e B hB hO => ⟨_, rfl, hO.2.2, fun _ => ?_, fun z => absurd rfl z⟩) (fun k c B e hk hc hj hB hO hR h14 hp => ⟨_, rfl, hO.2.2, fun z => absurd z (by have := h.lo hk; omega), fun _ => kp_isParty ⟨_, rfl, Ext.refl _, fun z => ?_, fun z => ?_⟩⟩)))
  · have hc : cLuck s l x p w = none := by unfold cLuck; rw [e]; split <;> rfl
    rw [e] at hq
    cases hp : inN p 3 with
    | none => rw [hp] at hq; exact hno B hB hO hc _ hq
    | some q =>
      rw [hp] at hq
      cases hw : inN w 2 with
      | none => rw [hw] at hq; exact hno B hB hO hc _ hq
      | some v => rw [hw] at hq; exact hno B hB hO hc _ hq
  · rw [bI_0] at z
    have hcn : cLuck s l x p w = none := by unfold cLuck; rw [if_neg (fun q => by rw [z] at q; exact absurd q.1 (by decide))]
    cases hp3 : inN p 3 with
    | none => rw [hp3] at hq; exact hno B hB hO hcn _ hq
    | some q => rw [hp3] at z; cases z
  · rw [bI_n0] at z
    cases hp3 : inN p 3 with
    | none => rw [hp3] at z; cases z
    | some q =>
      obtain ⟨e4, e5⟩ := inN_some (by decide) hp3
      rw [hp3] at hq
      dsimp only at hq
      have no : (w.toInt < 0 ∨ (2 : Int) ≤ w.toInt) → inN w 2 = none ∧ cLuck s l x p w = none := fun q => by
        have e : inN w 2 = none := by unfold inN; rw [if_neg (by omega)]
        refine ⟨e, ?_⟩
        unfold cLuck; rw [if_neg (fun q => by rw [e] at q; exact absurd q.2 (by decide))]
      rw [toI_lt0, leI_n (n := 1) (by decide)]
      refine ⟨fun q2 => ?_, fun q0 => ⟨fun q2 => ?_, fun q2 => ?_⟩⟩
      · rw [(no (Or.inl q2)).1] at hq; exact hno B hB hO (no (Or.inl q2)).2 _ hq
      · have e3 : inN w 2 = some w.toInt.toNat := by unfold inN; rw [if_pos (by omega)]
        obtain ⟨e6, e7⟩ := inN_some (by decide) e3
        have hck : cLuck s l x p w = some k := by unfold cLuck; rw [if_pos ⟨by rw [hp3]; rfl, by rw [e3]; rfl⟩, e]; rfl
        rw [e3, e] at hq
        dsimp only at hq
        generalize w.toInt.toNat = v at e6 e7 hq
        have hs4 := hR.2.2.2.1
        have hW : ∀ x q, wiL (sLs s k) x q ≤ 4 := fun x q => by have := wiL_le (sLs s k) x q; omega
        rw [e4, e6]
        refine ⟨hR.1.1, kp_wins (f := fun i => seL (sLs s k) c i) (by omega) hR hB.1.1.k16 (by omega) (fun i hi => ⟨sOB_lt _ _ _ _ _, hp i hi⟩) ⟨_, rfl, Ext.refl _, rkC T k, rkN s T k, (hkc k hck).1, (hkc k hck).2, ?_⟩⟩
        refine kp_roll (by omega) hB hk hR h14 (Nat.le_refl _) (Nat.le_refl _) (fun C T' c2 w' hC hO2 hT hrm hLa hRC h14C hK hpt => ⟨_, rfl, hO2.2.2, ?_⟩)
        have fin : ∀ v : Int32, (∀ B T', CI B s T' → OFr M B → TR T T' → (∀ l', cLuck s l x p w = some l' → (aRm T' l').isSome = true) → Q (some (vI v)) B) → Q (some (vI v)) C := fun v hv => hv C T' hC (hO.trans hO2) (tR_of hT) (fun l hl => by rw [hck] at hl; cases hl; rw [hrm]; rfl)
        have hKx := hK.x
        have hwc := hW c q
        have ew : smF (sLs s k).2.1 (fun i => if wnL (sLs s k) (seL (sLs s k) c i) = q then 1 else 0) = wiL (sLs s k) c q := rfl
        rw [ew, na_eq (by omega) (by decide)]
        unfold luckL at hq
        refine ⟨fun z0 => ⟨hK.1, ?_⟩, fun z0 => ⟨hK.1, ?_⟩⟩
        · rw [show nI 0 = nI 0 from rfl]
          refine kp_howMany (lo := 0) (hi := nI (wiL (sLs s k) c q) - nI 1) (H := fun v => decide (v < wiL (sLs s k) c q)) (by omega) hKx hW e5 (by decide) (fun v hv => ?_) ⟨_, rfl, Ext.refl _, ?_⟩
          · rw [nI_subz, ← zI_n, zI_lt (by omega) (by omega) (by omega) (by omega), decide_eq_false_iff_not]
            omega
          · have ef : (fun c' => decide (0 ≤ wiL (sLs s k) c' q) && decide (wiL (sLs s k) c' q < wiL (sLs s k) c q)) = (fun x => if v = 0 then decide (wiL (sLs s k) c q < wiL (sLs s k) x q) else decide (wiL (sLs s k) x q < wiL (sLs s k) c q)) := by
              funext c'; rw [if_neg z0]; simp
            rw [ef]
            exact fin _ hq
        · rw [nI_add]
          refine kp_howMany (lo := wiL (sLs s k) c q + 1) (hi := nI 4) (H := fun _ => true) (by omega) hKx hW e5 (by omega) (fun v hv => ?_) ⟨_, rfl, Ext.refl _, ?_⟩
          · rw [na_lt (by decide) (by omega)]
            exact ⟨fun q => by omega, fun q => by cases q⟩
          · have ef : (fun c' => decide (wiL (sLs s k) c q + 1 ≤ wiL (sLs s k) c' q) && true) = (fun x => if v = 0 then decide (wiL (sLs s k) c q < wiL (sLs s k) x q) else decide (wiL (sLs s k) x q < wiL (sLs s k) c q)) := by
              funext c'; rw [if_pos z0, Bool.and_true]; rfl
            rw [ef]
            exact fin _ hq
      · rw [(no (Or.inr (by omega))).1] at hq; exact hno B hB hO (no (Or.inr (by omega))).2 _ hq
theorem CI.ne {l : Nat} {B : Mem} (h : CI M s T) (hl : l < sNl s) (hF : Fr (neS (aLa T l) 74) M B) : CI B s T ∧ OFr M B := by
  have lo := h.lo hl
  have hse := h.2.2.2.2.2.2.2.2.2
  obtain ⟨o1, o2, o3⟩ := hse.2.1 l hl
  refine h.ld hl ((hF.mono (T := ixS T (100 + l)) (fun b k q => ?_)).rr) ?_
  · unfold neS coS at q
    rcases q with q | q
    · right; rw [q.1]; exact o1 1 (by omega)
    · left; unfold sfS; omega
  · obtain ⟨d1, d2, d3, d4, d5⟩ := h.2.2.2.1 l hl
    have i : ∀ b k, (b ≠ aLa T l + 1 ∨ k = 0) → b ≠ 74 → mI B b k = mI M b k := fun b k hb h2 => hF.at (by unfold neS coS; omega)
    refine ⟨d1.fr hF (fun k hk q => by unfold neS coS at q; omega) (fun k => ⟨fun q => by unfold neS coS at q; omega, fun q => by unfold neS coS at q; omega, fun q => by unfold neS coS at q; omega, fun q => by unfold neS coS at q; omega⟩) (fun q => by unfold neS coS at q; omega), (i _ _ (Or.inr rfl) (by omega)).trans d2, ?_, ⟨(i _ _ (by omega) (by omega)).trans d4.1, fun w => (i (aLa T l) 14 (by omega) (by omega)).trans (d4.2 w)⟩, ?_⟩
    · rcases d3 with ⟨a, b⟩ | a
      · exact Or.inl ⟨(i _ _ (by omega) (by omega)).trans a, b.fr hF (fun k => ⟨by unfold neS coS; omega, by unfold neS coS; omega, by unfold neS coS; omega⟩)⟩
      · exact Or.inr ((i _ _ (by omega) (by omega)).trans a)
    · have er : ∀ b k, mR B b k = mR M b k := fun b k => by unfold mR; rw [hF.2]
      cases hr : aRm T l with
      | none =>
        rw [hr] at d5
        obtain ⟨a, b⟩ := d5
        exact ⟨by rw [er]; exact hF.ext.1 _ _ _ a, (i _ _ (by omega) (by omega)).trans b⟩
      | some q =>
        rw [hr] at d5
        obtain ⟨a, ⟨b1, b2⟩, ⟨c1, c2⟩, dd⟩ := d5
        refine ⟨a, ⟨(er _ _).trans b1, (er _ _).trans b2⟩, ⟨hF.ext.1 _ _ _ c1, hF.ext.1 _ _ _ c2⟩, ?_⟩
        rcases dd with dd | ⟨e1, e2⟩
        · exact Or.inl ((i _ _ (by omega) (by omega)).trans dd)
        · refine Or.inr ⟨(i _ _ (by omega) (by omega)).trans e1, fun w => ?_⟩
          exact (e2 ((i (aLa T l) 14 (by omega) (by omega)).symm.trans w)).fr hF (by unfold neS coS; omega) (fun k => by unfold neS coS; omega) (fun k => by unfold neS coS; omega)
theorem kp10_near {l x : Int32} (hd : 7 ≤ d) (h : CI M s T) (hkc : ∀ k, cNear s l x = some k → rkC T k ≤ kc ∧ rkN s T k ≤ ns) (hq : ansR M s T Q (cNear s l x) (aNear (sNl s) (sLs s) l x)) : Cl X d kc ns m_X10_near [vR 1, vI l, vI x] M Q := by
  unfold aNear at hq
  have hno : ∀ B, CI B s T → OFr M B → (cNear s l x = none) → (∀ v : Int32, (∀ B T', CI B s T' → OFr M B → TR T T' → (∀ l', cNear s l x = some l' → (aRm T' l').isSome = true) → Q (some (vI v)) B) → Q (some (vI v)) B) := fun B hB hO hc v hv => hv B T hB hO TR.refl (fun k hk => by rw [hc] at hk; cases hk)
  refine e_X10_near (b_X10_near_0 h.1.1 (by omega) (kp_readyLand (by omega) h (fun e => ⟨_, rfl, Ext.refl _, fun z => absurd rfl z, fun _ => ?_⟩) (fun k B e hk hB hO hR h14 => ⟨_, rfl, hO.2.2, fun _ => ⟨hR.1.1, ?_⟩, fun w => absurd w (by have := h.lo hk; omega)⟩)))
  · have : lcN (sNl s) (sLs s) l x = none := by unfold lcN; rw [e]
    rw [this] at hq
    exact hno M h OFr.refl (by unfold cNear; rw [this]) _ hq
  have lk := h.lo hk
  have hL := hR.2.2
  have hs4 := hL.2.1
  have h49 : 4 ^ (sLs s k).1 ≤ 4 ^ 9 := Nat.pow_le_pow_right (by decide) hL.1.2
  have h49e : (4 : Nat) ^ 9 = 262144 := rfl
  refine kp_judged (by omega) hR hB.1.1.k16 (by unfold ofa; omega) (fun e2 => ⟨_, rfl, Ext.refl _, fun _ => ?_, fun w => absurd rfl w⟩) (fun c e2 C hFC hC => ⟨_, rfl, hFC.ext, ?_⟩)
  · have : lcN (sNl s) (sLs s) l x = none := by unfold lcN; rw [e]; dsimp only; rw [e2]
    rw [this] at hq
    exact hno B hB hO (by unfold cNear; rw [this]) _ hq
  obtain ⟨c1, c2⟩ := hB.pt (Or.inl rfl) hFC
  have hRC := hR.at hFC (by unfold ofa; omega)
  have h14C : mI C (aLa T k) 14 = nI 0 := by rw [hFC.at (by unfold atS; omega)]; exact h14
  obtain ⟨ex, hc⟩ := inN_some (by omega) e2
  have hlc : lcN (sNl s) (sLs s) l x = some (k, c) := by unfold lcN; rw [e]; dsimp only; rw [e2]
  have jb := jdL_le (sLs s k) c
  rw [hlc] at hq
  dsimp only at hq
  refine ⟨fun z => absurd z (na_m1 (by omega)), fun _ => ?_⟩
  rw [na_eq (by omega) (by decide), na_eq (by omega) (by decide)]
  refine ⟨fun z1 => ?_, fun z1 => ?_⟩
  rotate_left
  · rw [if_pos z1] at hq
    exact hno C c1 (hO.trans c2) (by unfold cNear; rw [hlc]; dsimp only; rw [if_pos (Or.inl z1)]) _ hq
  rw [if_neg z1] at hq
  have hcn : nuF 2 (sLs s k).1 c (whL (sLs s k)) (sLs s k).1 = some (sLs s k).2.1 := Classical.byContradiction (fun w => z1 (by unfold jdL; rw [if_neg w]))
  have hls : ∀ y, y ∈ lsL (sLs s k) (whL (sLs s k)) (sLs s k).2.1 → y < 4 ^ (sLs s k).1 ∧ icN (sLs s k) y (whL (sLs s k)) (sLs s k).2.1 := fun y hy => lsL_ok (by omega) hy
  have look : cNear s l x = some k → (c ∈ lsL (sLs s k) (whL (sLs s k)) (sLs s k).2.1 → seB (sLs s k) c = false) → WA X d kc ns m_X10_near 55 [some (vR 1), none, none, some (vR (aLa T k)), none] [] C Q := fun hck hn => by
    refine b_X10_near_55 c1.1.1 (by omega) ⟨hRC.1.1, rkC T k, rkN s T k, (hkc k hck).1, (hkc k hck).2, ?_⟩
    refine kp_roll (by omega) c1 hk hRC h14C (Nat.le_refl _) (Nat.le_refl _) (fun D T' c3 w' hD hO2 hT hrm hLa hRD h14D hK hpt => ⟨_, rfl, hO2.2.2, ?_⟩)
    have hz := (hD.2.2.2.1 k hk).2.1
    rw [hLa] at hz
    have hsp := (hD.2.2.2.2.2.2.2.2.2.2.1 k hk).2.2 _ hrm
    rw [hLa] at hsp
    refine kp_nearest (b1 := 73) (b2 := 74) (c := c) (by omega) hRD hz hD.1.1.k16 hD.1.1.k17 (by omega) (by omega) (by decide) hc hcn (fun i hi => ?_) hK ?_ hls hn (fun E hFE => ⟨_, rfl, hFE.ext, ?_⟩)
    · rw [(hpt i).1]; exact hC z1 i hi
    · have w1 := hsp.2.1.1
      have w2 := hsp.2.1.2
      dsimp only at w1 w2
      omega
    · have hFE' : Fr (neS (aLa T' k) 74) D E := by rw [hLa]; exact hFE
      obtain ⟨f1, f2⟩ := hD.ne hk hFE'
      have hv : nrI (nrF (sLs s k) c (lsL (sLs s k) (whL (sLs s k)) (sLs s k).2.1) none) = (match nrF (sLs s k) c (lsL (sLs s k) (whL (sLs s k)) (sLs s k).2.1) none with | none => -1 | some b => nI b.1) := rfl
      rw [hv]
      exact hq E T' f1 (((hO.trans c2).trans hO2).trans f2) (tR_of hT) (fun l' hl' => by rw [hck] at hl'; cases hl'; rw [hrm]; rfl)
  refine ⟨fun z0 => look (by unfold cNear; rw [hlc]; dsimp only; rw [if_neg (by rintro (w | w); exact z1 w; exact z0 w.1)]) (fun hin => absurd (jdL_ic.mpr (hls c hin).2) z0), fun z0 => ?_⟩
  have hic := jdL_ic.mp z0
  refine kp_setB (by omega) hRC hic hc c1.1.1.k16 (hC z1) ⟨_, rfl, Ext.refl _, ?_⟩
  rw [bI_0]
  refine ⟨fun w => look (by unfold cNear; rw [hlc]; dsimp only; rw [if_neg (by rintro (v | v); exact z1 v; rw [w] at v; exact absurd v.2 (by decide))]) (fun _ => w), fun w => ?_⟩
  have w := eq_true_of_ne_false w
  have hself := nr_self (ds_self hL hc hcn) w (lsL (sLs s k) (whL (sLs s k)) (sLs s k).2.1) none (lsL_all hc hic) (fun o ho => by
    obtain ⟨y1, y2⟩ := hls o ho
    obtain ⟨y3, y4⟩ := ds_0 hL hc y1 hcn y2.1
    exact ⟨y3, fun q => (y4 q).symm⟩) (fun q hq2 => by cases hq2)
  rw [hself] at hq
  rw [ex]
  exact hno C c1 (hO.trans c2) (by unfold cNear; rw [hlc]; dsimp only; rw [if_pos (Or.inr ⟨z0, w⟩)]) _ hq
end API
