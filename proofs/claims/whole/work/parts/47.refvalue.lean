/-! THE REFERENCE: what comes of a game -/
def smZ : Nat → (Nat → Int) → Int
  | 0, _ => 0
  | n + 1, f => smZ n f + f n
/-- whether a player would have the goal great -/
def grB (g pl : Nat) : Bool := if g = 2 then decide (pl = 1) else decide (pl = 0)
def cwL (L : LandT) (g c o m : Nat) : Int := smZ m (fun s => woL g (wnL L (sOB 2 L.1 c o s)))
/-- a seat kept, and what comes then (by C) -/
def ktF (L : LandT) (g : Nat) (C : Nat → Int) (c o s : Nat) : Int := woL g (wnL L (sOB 2 L.1 c o s)) + C (dif o (sOB 2 L.1 c o s))
def kvF (L : LandT) (g : Nat) (C : Nat → Int) (c o m : Nat) (gr : Bool) : Int := (fldR (fun acc s => some (beI gr acc (ktF L g C c o s))) m 0 (none : Option Int)).getD 0
def bnT (gr : Bool) (q : Option Int × Option Int) (v : Int) : Option Int × Option Int := match q.1 with
  | none => (some v, none)
  | some x => if (if gr then x < v else v < x) then (some v, some x) else (some x, some (beI gr q.2 v))
def cmV (L : LandT) (P : ProT) (g : Nat) (gr : Bool) (t : Nat) (C : Nat → Int) (o m c : Nat) : Int := if P.2.2 t = 0 then kvF L g C c o m (!gr) else cwL L g c o m
def cmB (L : LandT) (P : ProT) (g : Nat) (gr : Bool) (t : Nat) (C : Nat → Int) (o m : Nat) (xs : List Nat) : Option Int × Option Int := xs.foldl (fun q c => bnT gr q (cmV L P g gr t C o m c)) (none, none)
/-- what comes of m seats to come with o open -/
def cmF (L : LandT) (P : ProT) (g : Nat) (ot : Bool) : Nat → Nat → Int
  | 0, _ => 0
  | m + 1, o =>
    if P.2.2 ((L.2.1 - (m + 1)) % P.1) = 1 then (match hvF L g (grB g (drF P ot ((L.2.1 - (m + 1)) % P.1))) true o (m + 1) with | none => 0 | some v => v.1)
    else if lsL L o (m + 1) = [] then 0
    else if P.2.2 ((L.2.1 - (m + 1)) % P.1) = 2 ∧ 1 < (lsL L o (m + 1)).length then (cmB L P g (grB g (drF P ot ((L.2.1 - (m + 1)) % P.1))) ((L.2.1 - (m + 1)) % P.1) (cmF L P g ot m) o (m + 1) (lsL L o (m + 1))).2.getD 0
    else (cmB L P g (grB g (drF P ot ((L.2.1 - (m + 1)) % P.1))) ((L.2.1 - (m + 1)) % P.1) (cmF L P g ot m) o (m + 1) (lsL L o (m + 1))).1.getD 0
/-! bounds -/
theorem smZ_b {f : Nat → Int} : ∀ n, (∀ k, k < n → -1 ≤ f k ∧ f k ≤ 1) → -(n : Int) ≤ smZ n f ∧ smZ n f ≤ n
  | 0, _ => by simp [smZ]
  | n + 1, h => by
    have h1 := smZ_b (f := f) n (fun k hk => h k (by omega))
    have h2 := h n (by omega)
    simp only [smZ]; omega
theorem cwL_b (L : LandT) (g c o m : Nat) : -(m : Int) ≤ cwL L g c o m ∧ cwL L g c o m ≤ m := smZ_b m (fun _ _ => woL_b _ _)
theorem kv_b {L : LandT} {g : Nat} {C : Nat → Int} {c o : Nat} {gr : Bool} {n : Int} (hC : ∀ x, -n ≤ C x ∧ C x ≤ n) : ∀ (j s : Nat) (acc : Option Int), (∀ v, acc = some v → -(n + 1) ≤ v ∧ v ≤ n + 1) → ∀ v, fldR (fun acc s => some (beI gr acc (ktF L g C c o s))) j s acc = some v → -(n + 1) ≤ v ∧ v ≤ n + 1
  | 0, s, acc, ha, v, h => ha v h
  | j + 1, s, acc, ha, v, h => by
    refine kv_b hC j (s + 1) _ (fun x hx => ?_) v h
    cases hx
    have h1 := woL_b g (wnL L (sOB 2 L.1 c o s))
    have h2 := hC (dif o (sOB 2 L.1 c o s))
    exact beI_b ha (by unfold ktF; omega)
theorem kvF_b {L : LandT} {g : Nat} {C : Nat → Int} {c o m : Nat} {gr : Bool} {n : Int} (hn : 0 ≤ n) (hC : ∀ x, -n ≤ C x ∧ C x ≤ n) : -(n + 1) ≤ kvF L g C c o m gr ∧ kvF L g C c o m gr ≤ n + 1 := by
  unfold kvF
  cases hc : fldR (fun acc s => some (beI gr acc (ktF L g C c o s))) m 0 (none : Option Int) with
  | none => simp only [Option.getD_none]; omega
  | some v =>
    have := kv_b hC m 0 none (fun v hv => by cases hv) v hc
    simp only [Option.getD_some]; omega
def inI (lo hi : Int) (q : Option Int) : Prop := ∀ v, q = some v → lo ≤ v ∧ v ≤ hi
theorem bnT_b {gr : Bool} {q : Option Int × Option Int} {v lo hi : Int} (h1 : inI lo hi q.1) (h2 : inI lo hi q.2) (hv : lo ≤ v ∧ v ≤ hi) : inI lo hi (bnT gr q v).1 ∧ inI lo hi (bnT gr q v).2 := by
  obtain ⟨a, b⟩ := q
  unfold bnT
  cases a with
  | none => exact ⟨fun x hx => by cases hx; exact hv, fun x hx => by cases hx⟩
  | some y =>
    dsimp only
    by_cases hc : (if gr = true then y < v else v < y)
    · rw [if_pos hc]
      exact ⟨fun x hx => by cases hx; exact hv, fun x hx => by cases hx; exact h1 _ rfl⟩
    · rw [if_neg hc]
      exact ⟨h1, fun x hx => by cases hx; exact beI_b h2 hv⟩
theorem cmB_b {L : LandT} {P : ProT} {g t o m : Nat} {gr : Bool} {C : Nat → Int} {lo hi : Int} (hv : ∀ c, lo ≤ cmV L P g gr t C o m c ∧ cmV L P g gr t C o m c ≤ hi) : ∀ (xs : List Nat) (q : Option Int × Option Int), inI lo hi q.1 → inI lo hi q.2 → inI lo hi (xs.foldl (fun q c => bnT gr q (cmV L P g gr t C o m c)) q).1 ∧ inI lo hi (xs.foldl (fun q c => bnT gr q (cmV L P g gr t C o m c)) q).2
  | [], q, h1, h2 => ⟨h1, h2⟩
  | c :: xs, q, h1, h2 => by
    obtain ⟨a, b⟩ := bnT_b (gr := gr) h1 h2 (hv c)
    exact cmB_b hv xs _ a b
section VAL
variable {X : Cx} {l p g : Nat} {L : LandT} {P : ProT} {ot : Bool}
/-- what is known of what comes -/
def knR (M : Mem) (L : LandT) (P : ProT) (g : Nat) (ot : Bool) : Prop := ∀ m o, m ≤ 4 → o < 512 → ¬ mI M 95 (512 * m + o) = nI 0 → mI M 94 (512 * m + o) = zI (cmF L P g ot m o)
def VS (M : Mem) (l p : Nat) (L : LandT) (P : ProT) (g : Nat) (ot : Bool) : Prop := rH M l L ∧ p < 9 ∧ ProOK P ∧ rPro M p P ∧ mI M 75 24 = nI p ∧ mI M 75 25 = bI ot ∧ mI M 75 36 = nI g ∧ g < 3 ∧ knR M L P g ot
def vsS (a k : Nat) : Prop := a = 89 ∨ a = 90 ∨ a = 91 ∨ a = 93 ∨ a = 96 ∨ a = 92 ∨ (a = 75 ∧ k ≠ 2 ∧ k ≠ 12 ∧ k ≠ 16 ∧ k ≠ 19 ∧ k ≠ 24 ∧ k ≠ 25 ∧ k ≠ 36 ∧ k ≠ 51)
theorem VS.fr {M B : Mem} (h : VS M l p L P g ot) (hF : Fr vsS M B) : VS B l p L P g ot := by
  obtain ⟨h1, h2, h3, h4, h5, h6, h7, h8, h9⟩ := h
  refine ⟨h1.fr hF (fun a i h1 h2 q => by unfold vsS at q; omega) (fun q => by unfold vsS at q; omega) (fun i q => by unfold vsS at q; omega) (fun i q => by unfold vsS at q; omega), h2, h3, h4.fr hF (fun a i h1 h2 q => by unfold vsS at q; omega), (hF.at (by unfold vsS; omega)).trans h5, (hF.at (by unfold vsS; omega)).trans h6, (hF.at (by unfold vsS; omega)).trans h7, h8, fun m o hm ho hk => ?_⟩
  rw [hF.at (by unfold vsS; omega)] at hk ⊢
  exact h9 m o hm ho hk
theorem lfS_vs {M B : Mem} {lv : Nat} (h : Fr (lfS lv) M B) : Fr vsS M B := h.mono (fun a k q => by unfold lfS at q; unfold vsS; omega)
theorem VS.sg {M B : Mem} {G : GamT} (h : VS M l p L P g ot) (hF : Fr sgS M B) (hH : rH B l L) (hG : rGS B p ot G) : VS B l p L P g ot := by
  obtain ⟨h1, h2, h3, h4, h5, h6, h7, h8, h9⟩ := h
  refine ⟨hH, h2, h3, h4.fr hF (fun a i h1 h2 q => by unfold sgS ttS gmS at q; omega), hG.1, hG.2.1, (hF.at (by unfold sgS ttS gmS; omega)).trans h7, h8, fun m o hm ho hk => ?_⟩
  rw [hF.at (by unfold sgS ttS gmS; omega)] at hk ⊢
  exact h9 m o hm ho hk
theorem hvS_vs {M B : Mem} (h : Fr hvS M B) : Fr vsS M B := h.mono (fun a k q => by unfold hvS at q; unfold vsS; omega)
/-- what the look ahead over m seats changes -/
def cmS (m a k : Nat) : Prop := (a = 89 ∧ k < 8000 * (m + 1)) ∨ a = 90 ∨ a = 93 ∨ a = 94 ∨ a = 95 ∨ (a = 75 ∧ (k = 22 ∨ k = 35 ∨ k = 37 ∨ k = 38 ∨ k = 39 ∨ k = 42))
theorem cmS_mono {m m' : Nat} {M B : Mem} (h : Fr (cmS m) M B) (hm : m ≤ m') : Fr (cmS m') M B := h.mono (fun a k q => by unfold cmS at *; omega)
theorem lfS_cm {M B : Mem} {m : Nat} (h : Fr (lfS m) M B) : Fr (cmS m) M B := h.mono (fun a k q => by unfold lfS at q; unfold cmS; omega)
theorem hvS_cm {M B : Mem} {m : Nat} (h : Fr hvS M B) : Fr (cmS m) M B := h.mono (fun a k q => by unfold hvS at q; unfold cmS; omega)
theorem cmS_ss {M B : Mem} {m : Nat} (h : Fr (cmS m) M B) : Fr ssS M B := h.mono (fun a k q => by unfold cmS at q; unfold ssS; omega)
theorem grB_not {g pl : Nat} (h : pl ≤ 1) : grB g (1 - pl) = !grB g pl := by
  unfold grB
  rcases (show pl = 0 ∨ pl = 1 by omega) with rfl | rfl <;> split <;> decide
theorem sp_great {d pl : Nat} {M : Mem} {Q : Option AV → Mem → Prop} (hS : RfS M) (hg : mI M 75 36 = nI g) (hg3 : g < 3) (hp : pl ≤ 1) (h : Q (some (vI (bI (grB g pl)))) M) : Cl X d 0 0 m_X11_great [vR 75, vI (nI pl)] M Q := by
  refine e_X11_great (b_X11_great_0 hS ?_)
  rw [hg, na_eq (by omega) (by omega)]
  unfold grB at h
  refine ⟨fun q => ?_, fun q => ?_⟩
  · rw [if_neg q] at h
    rcases (show pl = 0 ∨ pl = 1 by omega) with rfl | rfl
    · exact h
    · exact h
  · rw [if_pos q] at h
    rcases (show pl = 0 ∨ pl = 1 by omega) with rfl | rfl
    · exact h
    · exact h
theorem sp_roundOf {d m : Nat} {M : Mem} {Q : Option AV → Mem → Prop} (hV : VS M l p L P g ot) (hm : m ≤ L.2.1) (h : Q (some (vI (nI (6 * p + (L.2.1 - m) % P.1)))) M) : Cl X d 0 0 m_X11_roundOf [vR 75, vI (nI m)] M Q := by
  obtain ⟨h1, h2, h3, h4, h5, h6, h7, h8, h9⟩ := hV
  have hb := h1.b
  have hp1 := h3.1
  have hp6 := h3.2.1
  refine e_X11_roundOf (b_X11_roundOf_0 h1.1 ⟨h1.i, ?_⟩)
  rw [h5, na_ix (by omega), h4.1, h1.s, na_sub hm, na_rem (by omega) (by omega) (by omega), pk_mul, nI_add]
  exact ⟨na_in h2 (by omega), fun z => by rw [na_eq (by omega) (by omega)] at z; omega, h⟩
theorem sp_cutWorth {d c o m : Nat} {M : Mem} {Q : Option AV → Mem → Prop} (hd : 2 ≤ d) (hH : rH M l L) (hg : mI M 75 36 = nI g) (hg3 : g < 3) (hc : c < 2 ^ 31) (ho : o < 2 ^ 31) (hm : m ≤ 4) (hx : nuF 2 L.1 c o L.1 = some m) (h : Q (some (vI (zI (cwL L g c o m)))) M) : Cl X d 0 0 m_X11_cutWorth [vR 75, vI (nI c), vI (nI o), vI (nI m)] M Q := by
  have key : ∀ r s, s + r = m → WA X d 0 0 m_X11_cutWorth 6 [some (vR 75), some (vI (nI c)), some (vI (nI o)), some (vI (nI m)), some (vI (zI (smZ s (fun s => woL g (wnL L (sOB 2 L.1 c o s)))))), some (vI (nI s))] [] M Q := by
    intro r
    induction r with
    | zero =>
      intro s hs
      obtain rfl : s = m := by omega
      exact b_X11_cutWorth_6 hH.1 (by omega) ⟨fun _ => h, fun q => absurd (by rw [na_le (by omega) (by omega)]; omega) q⟩
    | succ r ih =>
      intro s hs
      have hp := nuF_pos hx (show s < m by omega)
      refine b_X11_cutWorth_6 hH.1 (by omega) ⟨fun q => ?_, fun _ => sp_seatOf (by omega) hH hc ho (by omega) ⟨_, rfl, Ext.refl _, sp_worth hH hg hg3 hp (sOB_lt _ _ _ _ _) ⟨_, rfl, Ext.refl _, fun x3 e3 => ?_⟩⟩⟩
      · rw [na_le (by omega) (by omega)] at q; omega
      · rw [e3, zI_add, nI_add]
        exact ih (s + 1) (by omega)
  exact e_X11_cutWorth (b_X11_cutWorth_0 hH.1 (key m 0 (by omega)))
theorem cmV_b {m : Nat} (t o c : Nat) (gr : Bool) (hC : ∀ x, -(m : Int) ≤ cmF L P g ot m x ∧ cmF L P g ot m x ≤ m) : -((m : Int) + 1) ≤ cmV L P g gr t (cmF L P g ot m) o (m + 1) c ∧ cmV L P g gr t (cmF L P g ot m) o (m + 1) c ≤ (m : Int) + 1 := by
  unfold cmV
  split
  · exact kvF_b (by omega) hC
  · have := cwL_b L g c o (m + 1); omega
end VAL
theorem hvF_b1 {L : LandT} {g o m : Nat} {sm : Bool} : ∀ (xs : List Nat) (st : Option (Int × Nat)), (∀ q, st = some q → -5 ≤ q.1 ∧ q.1 ≤ 5) → ∀ q, xs.foldl (hvT L g sm true o m) st = some q → -5 ≤ q.1 ∧ q.1 ≤ 5
  | [], st, h, q, hq => h q hq
  | c :: xs, st, h, q, hq => by
    refine hvF_b1 xs (hvT L g sm true o m st c) (fun y hy => ?_) q hq
    have hv : -5 ≤ (pvB L (sOB 3 L.1 c o) m g (!sm) 5 0).getD 0 ∧ (pvB L (sOB 3 L.1 c o) m g (!sm) 5 0).getD 0 ≤ 5 := by
      cases hp : pvB L (sOB 3 L.1 c o) m g (!sm) 5 0 with
      | none => simp
      | some v => have := pvB_b _ _ v hp; simp only [Option.getD_some]; omega
    unfold hvT at hy
    split at hy
    · rw [if_pos rfl] at hy
      cases st with
      | none => cases hy; exact hv
      | some z =>
        dsimp only at hy
        by_cases hc : (if sm = true then z.1 < (pvB L (sOB 3 L.1 c o) m g (!sm) 5 0).getD 0 else (pvB L (sOB 3 L.1 c o) m g (!sm) 5 0).getD 0 < z.1)
        · rw [if_pos hc] at hy; cases hy; exact hv
        · rw [if_neg hc] at hy; exact h y hy
    · exact h y hy
theorem hvF_b {L : LandT} {g o m : Nat} {sm : Bool} {q : Int × Nat} (h : hvF L g sm true o m = some q) : -5 ≤ q.1 ∧ q.1 ≤ 5 := hvF_b1 _ none (fun y hy => by cases hy) q h
theorem cmF_b {L : LandT} {P : ProT} {g : Nat} {ot : Bool} : ∀ (m o : Nat), -((m : Int) + 5) ≤ cmF L P g ot m o ∧ cmF L P g ot m o ≤ (m : Int) + 5
  | 0, o => by simp [cmF]
  | m + 1, o => by
    have hC : ∀ x, -((m : Int) + 5) ≤ cmF L P g ot m x ∧ cmF L P g ot m x ≤ (m : Int) + 5 := fun x => cmF_b m x
    have hV : ∀ (gr : Bool) t c, -((m : Int) + 6) ≤ cmV L P g gr t (cmF L P g ot m) o (m + 1) c ∧ cmV L P g gr t (cmF L P g ot m) o (m + 1) c ≤ (m : Int) + 6 := fun gr t c => by
      unfold cmV
      split
      · have := kvF_b (L := L) (g := g) (c := c) (o := o) (m := m + 1) (gr := !gr) (n := (m : Int) + 5) (by omega) hC; omega
      · have := cwL_b L g c o (m + 1); omega
    have hB : ∀ (gr : Bool) t xs, inI (-((m : Int) + 6)) ((m : Int) + 6) (cmB L P g gr t (cmF L P g ot m) o (m + 1) xs).1 ∧ inI (-((m : Int) + 6)) ((m : Int) + 6) (cmB L P g gr t (cmF L P g ot m) o (m + 1) xs).2 := fun gr t xs => cmB_b (hV gr t) xs (none, none) (fun v hv => by cases hv) (fun v hv => by cases hv)
    have hg : ∀ q : Option Int, inI (-((m : Int) + 6)) ((m : Int) + 6) q → -(((m + 1 : Nat) : Int) + 5) ≤ q.getD 0 ∧ q.getD 0 ≤ ((m + 1 : Nat) : Int) + 5 := fun q hq => by
      cases q with
      | none => simp only [Option.getD_none]; omega
      | some v => have := hq v rfl; simp only [Option.getD_some]; omega
    unfold cmF
    split
    · split
      · omega
      · rename_i v hv
        have := hvF_b hv; omega
    · split
      · omega
      · split
        · exact hg _ (hB _ _ _).2
        · exact hg _ (hB _ _ _).1
