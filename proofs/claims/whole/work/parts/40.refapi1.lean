/-! THE REFERENCE's questions about cuts -/
/-- what no answer rests on between the calls -/
def scS (a k : Nat) : Prop := (87 ≤ a ∧ a ≤ 96) ∨ (a = 75 ∧ k ≠ 2 ∧ k ≠ 12 ∧ k ≠ 16 ∧ k ≠ 51)
theorem prS_sc {M B : Mem} (h : Fr prS M B) : Fr scS M B := h.mono (fun a k q => by unfold prS at q; unfold scS; omega)
theorem lfS_sc {M B : Mem} {lv : Nat} (h : Fr (lfS lv) M B) : Fr scS M B := h.mono (fun a k q => by unfold lfS at q; unfold scS; omega)
theorem rLds.sc {M B : Mem} {nl : Nat} {Ls : Nat → LandT} (h : rLds M nl Ls) (hF : Fr scS M B) : rLds B nl Ls := h.fr hF (fun a i h1 h2 q => by unfold scS at q; omega) (fun q => by unfold scS at q; omega)
theorem rT.sc {M B : Mem} {z : Nat} {t : Nat → Nat} (h : rT M z t) (hF : Fr scS M B) : rT B z t := h.fr hF (fun q => by unfold scS at q; omega) (fun i q => by unfold scS at q; omega)
/-- a land's number and a cut's number, if there are such ones -/
def lcN (nl : Nat) (Ls : Nat → LandT) (l x : Int32) : Option (Nat × Nat) := match inN l nl with
  | none => none
  | some k => match inN x (4 ^ (Ls k).1) with
    | none => none
    | some c => some (k, c)
theorem lcN_some {nl : Nat} {Ls : Nat → LandT} {l x : Int32} {k c : Nat} (hn : nl ≤ 6) (hL : ∀ l, l < nl → LdOK (Ls l)) (h : lcN nl Ls l x = some (k, c)) : l = nI k ∧ k < nl ∧ x = nI c ∧ c < 4 ^ (Ls k).1 := by
  unfold lcN at h
  cases h1 : inN l nl with
  | none => rw [h1] at h; cases h
  | some k' =>
    rw [h1] at h
    dsimp only at h
    obtain ⟨e1, e2⟩ := inN_some (by omega) h1
    have h9 := (hL k' e2).1.2
    have h4 := p4 h9
    cases h2 : inN x (4 ^ (Ls k').1) with
    | none => rw [h2] at h; cases h
    | some c' =>
      rw [h2] at h
      cases h
      obtain ⟨e3, e4⟩ := inN_some (by omega) h2
      exact ⟨e1, e2, e3, e4⟩
/-- the same, if the cut is lawful -/
def wlN (nl : Nat) (Ls : Nat → LandT) (l x : Int32) : Option (Nat × Nat) := match lcN nl Ls l x with
  | none => none
  | some (k, c) => if jdL (Ls k) c = 0 then some (k, c) else none
theorem wlN_some {nl : Nat} {Ls : Nat → LandT} {l x : Int32} {k c : Nat} (h : wlN nl Ls l x = some (k, c)) : lcN nl Ls l x = some (k, c) ∧ jdL (Ls k) c = 0 := by
  unfold wlN at h
  cases h1 : lcN nl Ls l x with
  | none => rw [h1] at h; cases h
  | some q =>
    obtain ⟨k', c'⟩ := q
    rw [h1] at h
    dsimp only at h
    split at h
    · cases h; rename_i h0; exact ⟨rfl, h0⟩
    · cases h
theorem jdL_0 {L : LandT} {c : Nat} (h : jdL L c = 0) : nuF 2 L.1 c (whL L) L.1 = some L.2.1 := by
  unfold jdL at h
  split at h
  · assumption
  · cases h
theorem jdS_0 {L : LandT} {c : Nat} : ∀ {r s : Nat}, jdS L c r s = 0 → ∀ k, s ≤ k → k < s + r → faL L (sOB 2 L.1 c (whL L) k) = 0
  | 0, s, _, k, h1, h2 => by omega
  | r + 1, s, h, k, h1, h2 => by
    unfold jdS at h
    split at h
    · rename_i h0
      rcases (show k = s ∨ s + 1 ≤ k by omega) with q | q
      · rw [q]; exact h0
      · exact jdS_0 h k q (by omega)
    · rename_i h0; exact absurd h h0
theorem jdS_of {L : LandT} {c : Nat} : ∀ {r s : Nat}, (∀ k, s ≤ k → k < s + r → faL L (sOB 2 L.1 c (whL L) k) = 0) → jdS L c r s = 0
  | 0, s, _ => rfl
  | r + 1, s, h => by
    unfold jdS
    rw [if_pos (h s (by omega) (by omega))]
    exact jdS_of (fun k h1 h2 => h k (by omega) (by omega))
theorem jdL_ic {L : LandT} {c : Nat} : jdL L c = 0 ↔ icN L c (whL L) L.2.1 := by
  constructor
  · intro h
    have h1 := jdL_0 h
    unfold jdL at h; rw [if_pos h1] at h
    exact ⟨h1, fun s hs => jdS_0 h s (by omega) (by omega)⟩
  · rintro ⟨h1, h2⟩
    unfold jdL; rw [if_pos h1]
    exact jdS_of (fun k a b => h2 k (by omega))
/-! what enB lists -/
theorem nuF_congr {b b' n n' c c' o : Nat} : ∀ {p : Nat}, (∀ q, q < p → dgB b n c q = dgB b' n' c' q) → nuF b n c o p = nuF b' n' c' o p
  | 0, _ => rfl
  | p + 1, h => by
    unfold nuF
    rw [nuF_congr (fun q hq => h q (by omega)), h p (by omega)]
theorem mem_flatR {f : Nat → List Nat} {x : Nat} : ∀ {j s : Nat}, x ∈ flatR f j s ↔ ∃ k, s ≤ k ∧ k < s + j ∧ x ∈ f k
  | 0, s => by simp [flatR]; intros; omega
  | j + 1, s => by
    rw [flatR, List.mem_append, mem_flatR]
    constructor
    · rintro (h | ⟨k, h1, h2, h3⟩)
      · exact ⟨s, by omega, by omega, h⟩
      · exact ⟨k, by omega, by omega, h3⟩
    · rintro ⟨k, h1, h2, h3⟩
      rcases (show k = s ∨ s + 1 ≤ k by omega) with q | q
      · subst q; exact Or.inl h3
      · exact Or.inr ⟨k, q, by omega, h3⟩
theorem enB_ok {b n o m : Nat} (hm : m ≤ 2 ^ b) : ∀ r p u c x, p + r = n → u ≤ m → c < (2 ^ b) ^ p → nuF b p c o p = some u → x ∈ enB b n o m r u c → x < (2 ^ b) ^ n ∧ nuF b n x o n = some m
  | 0, p, u, c, x, hp, hu, hc, hn, hx => by
    obtain rfl : p = n := by omega
    unfold enB at hx
    split at hx
    · simp at hx; subst hx; rename_i h; subst h; exact ⟨hc, hn⟩
    · cases hx
  | r + 1, p, u, c, x, hp, hu, hc, hn, hx => by
    have hop : n - (r + 1) = p := by omega
    have h2 := Nat.two_pow_pos b
    unfold enB at hx
    rw [hop] at hx
    have hlt : ∀ e, e < 2 ^ b → 2 ^ b * c + e < (2 ^ b) ^ (p + 1) := fun e he => by
      rw [Nat.pow_succ, Nat.mul_comm ((2 ^ b) ^ p)]
      have : 2 ^ b * (c + 1) ≤ 2 ^ b * (2 ^ b) ^ p := Nat.mul_le_mul_left _ hc
      rw [Nat.mul_succ] at this; omega
    have hpre : ∀ e, e < 2 ^ b → nuF b (p + 1) (2 ^ b * c + e) o p = some u := fun e he => by
      rw [← hn]; exact nuF_congr (fun q hq => dgB_init he hq)
    split at hx
    · rename_i ho
      obtain ⟨k, h3, h4, h5⟩ := mem_flatR.mp hx
      have hk : k < 2 ^ b := by omega
      refine enB_ok hm r (p + 1) (max u (k + 1)) _ x (by omega) (by omega) (hlt k hk) ?_ h5
      unfold nuF
      rw [hpre k hk]
      dsimp only
      rw [dgB_last hk, if_pos ho, if_neg (by omega)]
      split
      · congr 1; omega
      · congr 1; omega
    · rename_i ho
      refine enB_ok hm r (p + 1) u _ x (by omega) hu (hlt 0 h2) ?_ hx
      unfold nuF
      have e0 := hpre 0 h2
      rw [Nat.add_zero] at e0
      rw [e0]
      dsimp only
      have e1 := dgB_last (b := b) (p := p) (c := c) (e := 0) h2
      rw [Nat.add_zero] at e1
      rw [if_neg ho, e1, if_pos rfl]
theorem lsL_ok {L : LandT} {o m c : Nat} (hm : m ≤ 4) (h : c ∈ lsL L o m) : c < 4 ^ L.1 ∧ icN L c o m := by
  unfold lsL at h
  rw [List.mem_filter] at h
  obtain ⟨h1, h2⟩ := enB_ok (b := 2) hm L.1 0 0 0 c (by omega) (by omega) (by simp) rfl h.1
  exact ⟨h1, h2, of_decide_eq_true h.2⟩
theorem jdS_le (L : LandT) (c : Nat) : ∀ r s, jdS L c r s ≤ 4
  | 0, _ => by unfold jdS; omega
  | r + 1, s => by
    unfold jdS
    split
    · exact jdS_le L c r (s + 1)
    · exact faL_le _ _
theorem jdL_le (L : LandT) (c : Nat) : jdL L c ≤ 4 := by
  unfold jdL
  split
  · exact jdS_le L c _ _
  · omega
section API
variable {X : Cx} {d nl : Nat} {Ls : Nat → LandT} {M : Mem} {Q : Option AV → Mem → Prop}
theorem sp_isNumber {l x : Int32} (hd : 2 ≤ d) (hS : RfS M) (hl : rLds M nl Ls) (h : Q (some (vI (bI (lcN nl Ls l x).isSome))) M) : Cl X d 0 0 m_X11_isNumber [vR 75, vI l, vI x] M Q := by
  have h6 := hl.2.1
  refine e_X11_isNumber (b_X11_isNumber_0 hS (by omega) (sp_isLand (by omega) hS hl.1 (by omega) ⟨_, rfl, Ext.refl _, fun h0 => ?_, fun h0 => ?_⟩))
  · have := bI_0.mp h0
    unfold lcN at h
    cases hc : inN l nl with
    | none => rw [hc] at h; exact h
    | some k => rw [hc] at this; cases this
  · have := bI_n0.mp h0
    cases hc : inN l nl with
    | none => rw [hc] at this; cases this
    | some k =>
      obtain ⟨e1, e2⟩ := inN_some (by omega) hc
      subst e1
      obtain ⟨q1, q2⟩ := hl.2.2 k e2
      have h9 := q1.1
      have h4 := p4 h9.2
      unfold lcN at h
      rw [hc] at h
      dsimp only at h
      refine ⟨fun q => ?_, fun q => ⟨na_in (by omega) (by omega), fun q3 => ?_, fun q3 => ?_⟩⟩
      · rw [inN_neg q] at h; exact h
      · obtain ⟨c, rfl, hc2⟩ := nat_of q
        rw [na_ix (k := k) (by omega), q2.1, shr_0 hc2 h9.2] at q3
        rw [inN_nI_none hc2 (by omega)] at h; exact h
      · obtain ⟨c, rfl, hc2⟩ := nat_of q
        rw [na_ix (k := k) (by omega), q2.1, shr_0 hc2 h9.2] at q3
        rw [inN_nI (by omega) q3] at h; exact h
theorem sp_judge {l x : Int32} (hd : 4 ≤ d) (hS : RfS M) (hl : rLds M nl Ls) (h1 : lcN nl Ls l x = none → Q (some (vI (-1))) M)
    (h2 : ∀ k c B, lcN nl Ls l x = some (k, c) → l = nI k → k < nl → x = nI c → c < 4 ^ (Ls k).1 → Fr prS M B → rH B k (Ls k) → Q (some (vI (nI (jdL (Ls k) c)))) B) : Cl X d 0 0 m_X11_judge [vR 75, vI l, vI x] M Q := by
  have h6 := hl.2.1
  refine e_X11_judge (b_X11_judge_0 hS (by omega) (sp_isNumber (by omega) hS hl ⟨_, rfl, Ext.refl _, fun h0 => ?_, fun h0 => ?_⟩))
  · have := bI_n0.mp h0
    cases hc : lcN nl Ls l x with
    | none => rw [hc] at this; cases this
    | some q =>
      obtain ⟨k, c⟩ := q
      obtain ⟨e1, e2, e3, e4⟩ := lcN_some h6 (fun l hl2 => (hl.2.2 l hl2).1) hc
      obtain ⟨q1, q2⟩ := hl.2.2 k e2
      have h4 := p4 q1.1.2
      rw [e1, e3]
      refine sp_prepare (by omega) hS (by omega) q2 q1 (fun B hF hP => ⟨rfl, hF.ext, ?_⟩)
      have hH : rH B k (Ls k) := ⟨hS.fr hF, by omega, q2.fr hF (fun a i a1 a2 z => by unfold prS at z; omega), q1, hP⟩
      exact sp_judged (by omega) hH (by omega) ⟨_, rfl, Ext.refl _, h2 k c B hc e1 e2 e3 e4 hF hH⟩
  · have := bI_0.mp h0
    cases hc : lcN nl Ls l x with
    | none => exact h1 hc
    | some q => rw [hc] at this; cases this
theorem sp_isWell {l x : Int32} (hd : 5 ≤ d) (hS : RfS M) (hl : rLds M nl Ls) (h1 : wlN nl Ls l x = none → ∀ B, Fr prS M B → Q (some (vI (nI 0))) B)
    (h2 : ∀ k c B, wlN nl Ls l x = some (k, c) → l = nI k → k < nl → x = nI c → c < 4 ^ (Ls k).1 → jdL (Ls k) c = 0 → Fr prS M B → rH B k (Ls k) → Q (some (vI (nI 1))) B) : Cl X d 0 0 m_X11_isWell [vR 75, vI l, vI x] M Q := by
  refine e_X11_isWell (b_X11_isWell_0 hS (by omega) (sp_judge (by omega) hS hl (fun hc => ⟨_, rfl, Ext.refl _, fun _ => ?_, fun q => absurd q (by decide)⟩) (fun k c B hc e1 e2 e3 e4 hF hH => ⟨_, rfl, hF.ext, fun q => ?_, fun q => ?_⟩)))
  · exact h1 (by unfold wlN; rw [hc]) M Fr.refl
  · have hj : ¬ jdL (Ls k) c = 0 := fun z => q (by rw [z])
    exact h1 (by unfold wlN; rw [hc]; exact if_neg hj) B hF
  · have hb : jdL (Ls k) c ≤ 4 := jdL_le _ _
    rw [na_eq (by omega) (by omega)] at q
    exact h2 k c B (by unfold wlN; rw [hc]; exact if_pos q) e1 e2 e3 e4 q hF hH
def aJudge (nl : Nat) (Ls : Nat → LandT) (l x : Int32) : Int32 := match lcN nl Ls l x with
  | none => -1
  | some (k, c) => nI (jdL (Ls k) c)
theorem rf_judge {l x : Int32} (hd : 4 ≤ d) (hS : RfS M) (hl : rLds M nl Ls) (h : ∀ B, Fr scS M B → Q (some (vI (aJudge nl Ls l x))) B) : Cl X d 0 0 m_X11_judge [vR 75, vI l, vI x] M Q := by
  unfold aJudge at h
  refine sp_judge hd hS hl (fun hc => ?_) (fun k c B hc _ _ _ _ hF _ => ?_)
  · rw [hc] at h; exact h M Fr.refl
  · rw [hc] at h; exact h B (prS_sc hF)
def aWon (nl : Nat) (Ls : Nat → LandT) (l x s : Int32) : Int32 := match wlN nl Ls l x with
  | none => -1
  | some (k, c) => match inN s (Ls k).2.1 with
    | none => -1
    | some j => nI (wnL (Ls k) (sOB 2 (Ls k).1 c (whL (Ls k)) j))
theorem whL_lt (L : LandT) : whL L < 2 ^ L.1 := by unfold whL; have := Nat.two_pow_pos L.1; omega
theorem rf_won {l x s : Int32} (hd : 6 ≤ d) (hS : RfS M) (hl : rLds M nl Ls) (h : ∀ B, Fr scS M B → Q (some (vI (aWon nl Ls l x s))) B) : Cl X d 0 0 m_X11_won [vR 75, vI l, vI x, vI s] M Q := by
  unfold aWon at h
  refine e_X11_won (b_X11_won_0 hS (by omega) (sp_isWell (by omega) hS hl (fun hc B hF => ⟨_, rfl, hF.ext, fun _ => ?_, fun q => absurd rfl q⟩) (fun k c B hc e1 e2 e3 e4 hj hF hH => ⟨_, rfl, hF.ext, fun q => absurd q (by decide), fun _ => ?_⟩)))
  · rw [hc] at h; exact h B (prS_sc hF)
  · rw [hc] at h
    dsimp only at h
    have hb := hH.b
    have h512 := p9 hb.2.1
    have h4 := p4 hb.2.1
    have hw := whL_lt (Ls k)
    subst e1
    subst e3
    refine ⟨na_in hH.2.1 (by omega), sp_inN (n := (Ls k).2.1) (by omega) (by rw [na_ix (k := k) (by have := hH.2.1; omega), hH.2.2.1.2.1]) ⟨_, rfl, Ext.refl _, fun q => ?_, fun q => ?_⟩⟩
    · have := bI_0.mp q
      cases hs : inN s (Ls k).2.1 with
      | none => rw [hs] at h; exact h B (prS_sc hF)
      | some j => rw [hs] at this; cases this
    · have := bI_n0.mp q
      cases hs : inN s (Ls k).2.1 with
      | none => rw [hs] at this; cases this
      | some j =>
        rw [hs] at h
        obtain ⟨f1, f2⟩ := inN_some (by omega) hs
        subst f1
        have hlt := sOB_lt 2 (Ls k).1 c (whL (Ls k)) j
        have hpos := nuF_pos (jdL_0 hj) f2
        refine sp_whole hH ⟨_, rfl, Ext.refl _, sp_seatOf (by omega) hH (by omega) (by omega) (by omega) ⟨_, rfl, Ext.refl _, na_in (by omega) (by omega), ?_⟩⟩
        rw [na_ix (by omega), (hH.2.2.2.2.2 _ hpos hlt).2]
        exact h B (prS_sc hF)
def aSeats (nl : Nat) (Ls : Nat → LandT) (l x p : Int32) : Int32 := match inN p 3 with
  | none => -1
  | some q => match wlN nl Ls l x with
    | none => -1
    | some (k, c) => nI (wiL (Ls k) c q)
theorem rf_seats {l x p : Int32} (hd : 6 ≤ d) (hS : RfS M) (hl : rLds M nl Ls) (h : ∀ B, Fr scS M B → Q (some (vI (aSeats nl Ls l x p))) B) : Cl X d 0 0 m_X11_seats [vR 75, vI l, vI x, vI p] M Q := by
  unfold aSeats at h
  refine e_X11_seats (b_X11_seats_0 hS (by omega) (sp_isParty (by omega) ⟨_, rfl, Ext.refl _, fun q => ?_, fun q => ?_⟩))
  · have := bI_0.mp q
    cases hs : inN p 3 with
    | none => rw [hs] at h; exact h M Fr.refl
    | some j => rw [hs] at this; cases this
  · have := bI_n0.mp q
    cases hs : inN p 3 with
    | none => rw [hs] at this; cases this
    | some j =>
      rw [hs] at h
      dsimp only at h
      obtain ⟨f1, f2⟩ := inN_some (by omega) hs
      subst f1
      refine sp_isWell (by omega) hS hl (fun hc B hF => ⟨_, rfl, hF.ext, fun _ => ?_, fun q => absurd rfl q⟩) (fun k c B hc e1 e2 e3 e4 hj hF hH => ⟨_, rfl, hF.ext, fun q => absurd q (by decide), fun _ => ?_⟩)
      · rw [hc] at h; exact h B (prS_sc hF)
      · rw [hc] at h
        subst e3
        have h4 := p4 hH.b.2.1
        exact sp_wins (by omega) hH (by omega) (by omega) (jdL_0 hj) ⟨_, rfl, Ext.refl _, h B (prS_sc hF)⟩
theorem sp_listAll {k : Nat} (hd : 12 ≤ d) (hS : RfS M) (hl : rLds M nl Ls) (hk : k < nl) (h : ∀ B, Fr scS M B → rH B k (Ls k) → stL B 89 0 (lsL (Ls k) (whL (Ls k)) (Ls k).2.1) → Q (some (vI (nI (lsL (Ls k) (whL (Ls k)) (Ls k).2.1).length))) B) : Cl X d 0 0 m_X11_listAll [vR 75, vI (nI k)] M Q := by
  have h6 := hl.2.1
  obtain ⟨q1, q2⟩ := hl.2.2 k hk
  refine e_X11_listAll (b_X11_listAll_0 hS (by omega) (sp_prepare (by omega) hS (by omega) q2 q1 (fun B hF hP => ⟨rfl, hF.ext, ?_⟩)))
  have hH : rH B k (Ls k) := ⟨hS.fr hF, by omega, q2.fr hF (fun a i a1 a2 z => by unfold prS at z; omega), q1, hP⟩
  refine sp_whole hH ⟨_, rfl, Ext.refl _, na_in (by omega) (by omega), ?_⟩
  rw [na_ix (by omega), hH.2.2.1.2.1]
  refine sp_list (lv := 0) (by omega) (by omega) (whL_lt _) hH.b.2.2.2 hH (fun B2 hF2 hst => ⟨_, rfl, hF2.ext, ?_⟩)
  exact h B2 ((prS_sc hF).trans (lfS_sc hF2)) (hH.lf hF2) hst
def aAll (nl : Nat) (Ls : Nat → LandT) (l i : Int32) : Int32 := match inN l nl with
  | none => -1
  | some k => if i = -1 then nI (lsL (Ls k) (whL (Ls k)) (Ls k).2.1).length else match inN i (lsL (Ls k) (whL (Ls k)) (Ls k).2.1).length with
    | none => -1
    | some j => nI ((lsL (Ls k) (whL (Ls k)) (Ls k).2.1).getD j 0)
theorem rf_all {l i : Int32} (hd : 13 ≤ d) (hS : RfS M) (hl : rLds M nl Ls) (h : ∀ B, Fr scS M B → Q (some (vI (aAll nl Ls l i))) B) : Cl X d 0 0 m_X11_all [vR 75, vI l, vI i] M Q := by
  have h6 := hl.2.1
  unfold aAll at h
  refine e_X11_all (b_X11_all_0 hS (by omega) (sp_isLand (by omega) hS hl.1 (by omega) ⟨_, rfl, Ext.refl _, fun q => ?_, fun q => ?_⟩))
  · have := bI_n0.mp q
    cases hs : inN l nl with
    | none => rw [hs] at this; cases this
    | some k =>
      rw [hs] at h
      dsimp only at h
      obtain ⟨f1, f2⟩ := inN_some (by omega) hs
      subst f1
      have hO := (hl.2.2 k f2).1
      have hlen := lsL_len (L := Ls k) (o := whL (Ls k)) hO.1.2 hO.2.1.2.1
      refine sp_listAll (by omega) hS hl f2 (fun B hF hH hst => ⟨_, rfl, hF.ext, fun q2 => ?_, fun q2 => ?_⟩)
      · rw [if_neg q2] at h
        refine sp_inN (n := (lsL (Ls k) (whL (Ls k)) (Ls k).2.1).length) (by omega) rfl ⟨_, rfl, Ext.refl _, fun q3 => ?_, fun q3 => ?_⟩
        · have := bI_0.mp q3
          cases hj : inN i (lsL (Ls k) (whL (Ls k)) (Ls k).2.1).length with
          | none => rw [hj] at h; exact h B hF
          | some j => rw [hj] at this; cases this
        · have := bI_n0.mp q3
          cases hj : inN i (lsL (Ls k) (whL (Ls k)) (Ls k).2.1).length with
          | none => rw [hj] at this; cases this
          | some j =>
            rw [hj] at h
            obtain ⟨g1, g2⟩ := inN_some (by omega) hj
            subst g1
            refine ⟨na_in (by omega) (by omega), ?_⟩
            have e := hst j _ (List.getElem?_eq_getElem g2)
            rw [Nat.zero_add] at e
            rw [na_ix (by omega), e]
            have := h B hF
            simp only [List.getD, List.getElem?_eq_getElem g2, Option.getD_some] at this
            exact this
      · rw [if_pos q2] at h
        exact h B hF
  · have := bI_0.mp q
    cases hs : inN l nl with
    | none => rw [hs] at h; exact h M Fr.refl
    | some j => rw [hs] at this; cases this
end API
