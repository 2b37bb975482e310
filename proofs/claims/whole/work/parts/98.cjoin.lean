/-! THE CLASS: halves are joined -/
abbrev PrL : Type := List (Nat × Nat)
def pSe (P : Nat → Nat) (q : Nat × Nat) : Nat := P q.1 ||| P q.2
def pwL (L : LandT) (P : Nat → Nat) (g : Nat) : PrL → Int
  | [] => 0
  | q :: ps => wcL g (wnL L (pSe P q)) + pwL L P g ps
theorem pwL_snoc (L : LandT) (P : Nat → Nat) (g : Nat) (q : Nat × Nat) : ∀ ps, pwL L P g (ps ++ [q]) = pwL L P g ps + wcL g (wnL L (pSe P q))
  | [] => by
    show wcL g (wnL L (pSe P q)) + 0 = 0 + wcL g (wnL L (pSe P q))
    omega
  | r :: ps => by
    show wcL g (wnL L (pSe P r)) + pwL L P g (ps ++ [q]) = wcL g (wnL L (pSe P r)) + pwL L P g ps + _
    rw [pwL_snoc L P g q ps]; omega
theorem pwL_b (L : LandT) (P : Nat → Nat) (g : Nat) : ∀ ps : PrL, -(ps.length : Int) ≤ pwL L P g ps ∧ pwL L P g ps ≤ ps.length
  | [] => ⟨by show _ ≤ (0 : Int); simp, by show (0 : Int) ≤ _; simp⟩
  | q :: ps => by
    have := pwL_b L P g ps
    have := wcL_b g (wnL L (pSe P q))
    show _ ≤ wcL g (wnL L (pSe P q)) + pwL L P g ps ∧ _
    simp only [List.length_cons]
    constructor
    · omega
    · show wcL g (wnL L (pSe P q)) + pwL L P g ps ≤ _
      omega
def prB (pl : Nat) (x y : Int) : Bool := if pl = 0 then decide (y < x) else decide (x < y)
def stJ (pl : Nat) (acc : Option (Nat × Int)) (x : Nat × Int) : Option (Nat × Int) := match acc with
  | none => some x
  | some b => if prB pl x.2 b.2 = true ∨ (x.2 = b.2 ∧ x.1 < b.1) then some x else some b
def flP (f : Nat → List PrL) : Nat → Nat → List PrL
  | 0, _ => []
  | j + 1, s => f s ++ flP f j (s + 1)
/-- all ways to join, in the order in which they are found -/
def jlF (L : LandT) (P : Nat → Nat) (m : Nat) : Nat → Nat → List PrL
  | 0, _ => [[]]
  | f + 1, u => flP (fun o => if u.testBit o = false ∧ faL L (P (loN u) ||| P o) = 0 then (jlF L P m f ((u ||| 2 ^ loN u) ||| 2 ^ o)).map (fun ps => (loN u, o) :: ps) else []) (m - (loN u + 1)) (loN u + 1)
theorem flP_mem {f : Nat → List PrL} {ps : PrL} : ∀ j s, ps ∈ flP f j s ↔ ∃ o, s ≤ o ∧ o < s + j ∧ ps ∈ f o
  | 0, s => by
    constructor
    · intro h; cases h
    · rintro ⟨o, h1, h2, -⟩; omega
  | j + 1, s => by
    show ps ∈ f s ++ flP f j (s + 1) ↔ _
    rw [List.mem_append, flP_mem j (s + 1)]
    constructor
    · rintro (h | ⟨o, h1, h2, h3⟩)
      · exact ⟨s, Nat.le_refl _, by omega, h⟩
      · exact ⟨o, by omega, by omega, h3⟩
    · rintro ⟨o, h1, h2, h3⟩
      by_cases z : o = s
      · subst z; exact Or.inl h3
      · exact Or.inr ⟨o, by omega, by omega, h3⟩
theorem pc_lo : ∀ u, u < 256 → ∀ k, k < 9 → (pcN k u = k → k ≤ loN u) ∧ (k ≤ loN u → pcN k u = k) ∧ pcN k u ≤ k := by decide +kernel
theorem jlF_mem {L : LandT} {P : Nat → Nat} {m : Nat} (hm : m ≤ 8) : ∀ (r u : Nat) (ps : PrL), u < 256 → pcN m u + 2 * r = m → (ps ∈ jlF L P m r u ↔ PRp L P m u ps)
  | 0, u, ps, hu, hc => by
    have hlo := (pc_lo u hu m (by omega)).1 (by omega)
    constructor
    · intro h
      have h : ps ∈ ([[]] : List PrL) := h
      rw [List.mem_singleton] at h
      subst h; exact hlo
    · intro h
      cases ps with
      | nil => exact List.mem_singleton.mpr rfl
      | cons q ps => have := h.1; omega
  | r + 1, u, ps, hu, hc => by
    have hlo : loN u < m := by
      refine Classical.byContradiction (fun z => ?_)
      have := (pc_lo u hu m (by omega)).2.1 (by omega)
      omega
    unfold jlF
    rw [flP_mem]
    constructor
    · rintro ⟨o, h1, h2, h3⟩
      by_cases hc2 : u.testBit o = false ∧ faL L (P (loN u) ||| P o) = 0
      · rw [if_pos hc2] at h3
        obtain ⟨ps', h4, h5⟩ := List.mem_map.mp h3
        have hz := zc_2 u hu m hm o (by omega) (by omega) hc2.1
        rw [← h5]
        exact ⟨hlo, rfl, by dsimp only; omega, by dsimp only; omega, hc2.1, hc2.2, (jlF_mem hm r _ ps' (u_or hu (by omega) (by omega)) (by dsimp only; omega)).mp h4⟩
      · rw [if_neg hc2] at h3; cases h3
    · intro h
      cases ps with
      | nil => have h : m ≤ loN u := h; omega
      | cons q ps =>
        obtain ⟨q1, q2⟩ := q
        obtain ⟨h1, h2, h3, h4, h5, h6, h7⟩ := h
        dsimp only at h2 h3 h4 h5 h6 h7
        subst h2
        have hz := zc_2 u hu m hm q2 h4 (by omega) h5
        refine ⟨q2, by omega, by omega, ?_⟩
        rw [if_pos ⟨h5, h6⟩]
        exact List.mem_map.mpr ⟨ps, (jlF_mem hm r _ ps (u_or hu (by omega) (by omega)) (by omega)).mpr h7, rfl⟩
/-- the joiner at a, set to work -/
def joX (M : Mem) (a la hb m pl g : Nat) : Prop := JoS M a ∧ mR M a 0 = la ∧ mR M a 1 = hb ∧ mI M a 2 = nI m ∧ mI M a 3 = nI pl ∧ mI M a 4 = nI g
def joR (M : Mem) (a : Nat) (st : Option (Nat × Int)) : Prop := match st with
  | none => mI M a 6 = (-1) ∧ mI M a 7 = nI 0
  | some b => mI M a 6 = nI b.1 ∧ mI M a 7 = zI b.2 ∧ b.1 < 2 ^ 31 ∧ -900 ≤ b.2 ∧ b.2 ≤ 900
def joS (a b k : Nat) : Prop := (b = a ∧ (k = 6 ∨ k = 7)) ∨ b = a + 2
section JOIN
variable {X : Cx} {L : LandT} {P : Nat → Nat} {NU : PrL → Nat} {a la hb m pl g : Nat}
theorem joX.fr {M B : Mem} (h : joX M a la hb m pl g) (hF : Fr (joS a) M B) : joX B a la hb m pl g := by
  obtain ⟨h1, h2, h3, h4, h5, h6⟩ := h
  have e : ∀ b k, mR B b k = mR M b k := fun b k => by unfold mR; rw [hF.2]
  have n : ∀ k, k < 5 → ¬ joS a a k := fun k hk q => by unfold joS at q; omega
  exact ⟨h1.ext hF.ext, (e _ _).trans h2, (e _ _).trans h3, (hF.at (n 2 (by decide))).trans h4, (hF.at (n 3 (by decide))).trans h5, (hF.at (n 4 (by decide))).trans h6⟩
theorem kp_prefers {d : Nat} {M : Mem} {Q : Option AV → Mem → Prop} {x y : Int} (hx : -1000000 ≤ x ∧ x ≤ 1000000) (hy : -1000000 ≤ y ∧ y ≤ 1000000) (hp : pl ≤ 1) (h : Q (some (vI (bI (prB pl x y)))) M) : Cl X d 0 0 m_X5_prefers [vI (nI pl), vI (zI x), vI (zI y)] M Q := by
  refine e_X5_prefers (b_X5_prefers_0 ?_)
  unfold prB at h
  rw [na_eq (by omega) (by decide), zI_le (by omega) (by omega) (by omega) (by omega), zI_le (by omega) (by omega) (by omega) (by omega)]
  refine ⟨fun q => ?_, fun q => ?_⟩
  · rw [if_neg q] at h
    refine ⟨fun q2 => ?_, fun q2 => ?_⟩
    · rw [decide_eq_false (by omega)] at h; exact h
    · rw [decide_eq_true (by omega)] at h; exact h
  · rw [if_pos q] at h
    refine ⟨fun q2 => ?_, fun q2 => ?_⟩
    · rw [decide_eq_false (by omega)] at h; exact h
    · rw [decide_eq_true (by omega)] at h; exact h
/-- what the joiner has found when it has looked at all ways behind pre -/
def joF (L : LandT) (P : Nat → Nat) (NU : PrL → Nat) (pl g : Nat) (pre : PrL) (st : Option (Nat × Int)) (xs : List PrL) : Option (Nat × Int) := xs.foldl (fun acc ps => stJ pl acc (NU (pre ++ ps), pwL L P g (pre ++ ps))) st
theorem joF_app (pre : PrL) (st : Option (Nat × Int)) (xs ys : List PrL) : joF L P NU pl g pre st (xs ++ ys) = joF L P NU pl g pre (joF L P NU pl g pre st xs) ys := List.foldl_append
theorem joF_map (pre : PrL) (q : Nat × Nat) : ∀ (xs : List PrL) (st : Option (Nat × Int)), joF L P NU pl g pre st (xs.map (fun ps => q :: ps)) = joF L P NU pl g (pre ++ [q]) st xs
  | [], st => rfl
  | x :: xs, st => by
    show joF L P NU pl g pre (stJ pl st (NU (pre ++ q :: x), pwL L P g (pre ++ q :: x))) (xs.map (fun ps => q :: ps)) = joF L P NU pl g (pre ++ [q]) (stJ pl st (NU (pre ++ [q] ++ x), pwL L P g (pre ++ [q] ++ x))) xs
    rw [joF_map pre q xs]
    rw [List.append_assoc]
    rfl
theorem getD_snoc {pre : PrL} {q : Nat × Nat} : (pre ++ [q]).getD pre.length (0, 0) = q := by simp
theorem getD_pre {pre : PrL} {q : Nat × Nat} {k : Nat} (hk : k < pre.length) : (pre ++ [q]).getD k (0, 0) = pre.getD k (0, 0) := by
  simp only [List.getD]
  rw [List.getElem?_append_left hk]
theorem kp_joinFrom (hm : m ≤ 4) (hg : g < 3) (hpl : pl ≤ 1) (hP : ∀ h, h < 2 * m → P h < 2 ^ L.1 ∧ 1 ≤ P h) (hNU : ∀ ps, PRp L P (2 * m) 0 ps → numO (fun k => pSe P (ps.getD k (0, 0))) L.1 m = NU ps ∧ NU ps < 2 ^ 31) (hla : a + 2 < la) (hhb : hb ≠ a ∧ hb ≠ a + 2) :
    ∀ (r d u : Nat) (pre : PrL) (M : Mem) (Q : Option AV → Mem → Prop) (st : Option (Nat × Int)), pre.length + r = m → r + 1 ≤ d → u < 256 → pcN (2 * m) u = 2 * pre.length → (∀ ps, PRp L P (2 * m) u ps → PRp L P (2 * m) 0 (pre ++ ps)) → (∀ k, k < pre.length → pSe P (pre.getD k (0, 0)) < 2 ^ L.1 ∧ mI M (a + 2) k = nI (pSe P (pre.getD k (0, 0)))) → joX M a la hb m pl g → laR M la L → isK M hb 14 8 → (∀ h, h < 2 * m → mI M hb h = nI (P h)) → joR M a st →
      (∀ B, Fr (joS a) M B → (∀ k, k < pre.length → mI B (a + 2) k = mI M (a + 2) k) → joR B a (joF L P NU pl g pre st (jlF L P (2 * m) r u)) → Q none B) → Cl X d 0 0 m_X2_joinFrom [vR a, vI (nI pre.length), vI (nI u), vI (zI (pwL L P g pre))] M Q := by
  intro r
  induction r with
  | zero =>
    intro d u pre M Q st hlen hd hu hc hpre hjn hX hR hkb hPm hst h
    have hn9 := hR.2.2.1.2
    have h49 : 4 ^ L.1 ≤ 4 ^ 9 := Nat.pow_le_pow_right (by decide) hn9
    have hb0 := pwL_b L P g pre
    obtain ⟨x1, x2, x3, x4, x5, x6⟩ := hX
    have hlo : 2 * m ≤ loN u := (pc_lo u hu (2 * m) (by omega)).1 (by omega)
    obtain ⟨n1, n2⟩ := hNU pre (by have := hpre [] hlo; rw [List.append_nil] at this; exact this)
    have e1 : joF L P NU pl g pre st (jlF L P (2 * m) 0 u) = stJ pl st (NU pre, pwL L P g pre) := by
      show stJ pl st (NU (pre ++ []), pwL L P g (pre ++ [])) = _
      rw [List.append_nil]
    have put : ∀ B : Mem, B = M → stJ pl st (NU pre, pwL L P g pre) = some (NU pre, pwL L P g pre) → WA X d 0 0 m_X2_joinFrom 65 [some (vR a), none, none, some (vI (zI (pwL L P g pre))), some (vI (nI (NU pre))), none, none] [] B Q := fun B hB he => by
      subst hB
      refine b_X2_joinFrom_65 x1 (fun M1 y1 M2 y2 => ?_)
      have hF : Fr (joS a) B M2 := by rw [y2, y1]; exact (Fr.sI (S := joS a) (Or.inl ⟨rfl, Or.inl rfl⟩)).trans (Fr.sI (Or.inl ⟨rfl, Or.inr rfl⟩))
      refine h M2 hF (fun k hk => ?_) ?_
      · rw [y2, mI_sI_a (by omega), y1, mI_sI_a (by omega)]
      · rw [e1, he]
        refine ⟨?_, ?_, n2, by dsimp only; omega, by dsimp only; omega⟩
        · rw [y2, mI_sI_i (by decide), y1, mI_sI_eq]
        · rw [y2, mI_sI_eq]
    have keep : stJ pl st (NU pre, pwL L P g pre) = st → Q none M := fun he => h M Fr.refl (fun k _ => rfl) (by rw [e1, he]; exact hst)
    refine e_X2_joinFrom (b_X2_joinFrom_0 x1 (by omega) ⟨fun q => absurd (by rw [x4, na_lt (by omega) (by omega)] at q; omega) (id : False → False), fun _ => ?_⟩)
    rw [x2, x4]
    refine ⟨hR.1.1, kp_numberOf (f := fun k => pSe P (pre.getD k (0, 0))) hR.1.1 hR.1.2.2.1.1 hn9 x1.2.2 (by omega) (fun s hs => hjn s (by omega)) ⟨_, rfl, Ext.refl _, ?_⟩⟩
    rw [n1]
    cases st with
    | none =>
      obtain ⟨z1, z2⟩ := hst
      rw [z1]
      exact ⟨fun _ => put M rfl rfl, fun q => absurd rfl q⟩
    | some b =>
      obtain ⟨z1, z2, z3, z4, z5⟩ := hst
      rw [z1]
      refine ⟨fun q => absurd q (na_m1 z3), fun _ => ?_⟩
      rw [x5, z2]
      refine kp_prefers (by omega) (by omega) hpl ⟨_, rfl, Ext.refl _, ?_⟩
      rw [bI_0, z1, z2, zI_eq (by omega) (by omega) (by omega) (by omega), na_le z3 n2]
      refine ⟨fun q => put M rfl ?_, fun q => ⟨fun q2 => keep ?_, fun q2 => ⟨fun q3 => keep ?_, fun q3 => put M rfl ?_⟩⟩⟩
      · show (if prB pl (pwL L P g pre) b.2 = true ∨ _ then _ else _) = _
        rw [if_pos (Or.inl (by simpa using q))]
      · show (if prB pl (pwL L P g pre) b.2 = true ∨ (pwL L P g pre = b.2 ∧ NU pre < b.1) then _ else _) = _
        rw [if_neg (by rw [q]; rintro (w | w); cases w; exact q2 w.1)]
      · show (if prB pl (pwL L P g pre) b.2 = true ∨ (pwL L P g pre = b.2 ∧ NU pre < b.1) then _ else _) = _
        rw [if_neg (by rw [q]; rintro (w | w); cases w; exact absurd w.2 (by omega))]
      · show (if prB pl (pwL L P g pre) b.2 = true ∨ (pwL L P g pre = b.2 ∧ NU pre < b.1) then _ else _) = _
        rw [if_pos (Or.inr ⟨q2, by omega⟩)]
  | succ r ih =>
    intro d u pre M Q st hlen hd hu hc hpre hjn hX hR hkb hPm hst h
    have hn9 := hR.2.2.1.2
    have h512 := p9 hn9
    have hlo : loN u < 2 * m := by
      refine Classical.byContradiction (fun z => ?_)
      have := (pc_lo u hu (2 * m) (by omega)).2.1 (by omega)
      omega
    have hlob := (lo_dec u hu).2 (by omega)
    obtain ⟨p1, p2⟩ := hP (loN u) hlo
    have inner : ∀ j o (B : Mem) (sb : Option (Nat × Int)), o + j = 2 * m → loN u < o → Fr (joS a) M B → (∀ k, k < pre.length → mI B (a + 2) k = mI M (a + 2) k) → joR B a sb → joF L P NU pl g pre sb (flP (fun o => if u.testBit o = false ∧ faL L (P (loN u) ||| P o) = 0 then (jlF L P (2 * m) r ((u ||| 2 ^ loN u) ||| 2 ^ o)).map (fun ps => (loN u, o) :: ps) else []) j o) = joF L P NU pl g pre st (jlF L P (2 * m) (r + 1) u) → WA X d 0 0 m_X2_joinFrom 112 [some (vR a), some (vI (nI pre.length)), some (vI (nI u)), some (vI (zI (pwL L P g pre))), some (vI (nI (loN u))), some (vI (nI o)), none] [] B Q := by
      intro j
      induction j with
      | zero =>
        intro o B sb ho hlo2 hF hk2 hsb he
        obtain ⟨x1, x2, x3, x4, x5, x6⟩ := hX.fr hF
        have he : sb = joF L P NU pl g pre st (jlF L P (2 * m) (r + 1) u) := he
        rw [he] at hsb
        exact b_X2_joinFrom_112 x1 (by omega) ⟨fun _ => h B hF hk2 hsb, fun q => absurd (by rw [x4, pk_mul, na_le (by omega) (by omega)]; omega) q⟩
      | succ j ihj =>
        intro o B sb ho hlo2 hF hk2 hsb he
        have hXB := hX.fr hF
        obtain ⟨x1, x2, x3, x4, x5, x6⟩ := hXB
        have hRB := hR.fr hF (fun b k h1 h2 q => by unfold joS at q; omega)
        have hPB : ∀ h, h < 2 * m → mI B hb h = nI (P h) := fun h hh => by rw [hF.at (fun q => by unfold joS at q; omega)]; exact hPm h hh
        obtain ⟨o1, o2⟩ := hP o (by omega)
        have hset : P (loN u) ||| P o < 2 ^ L.1 := Nat.or_lt_two_pow p1 o1
        have hset0 : P (loN u) ||| P o ≠ 0 := fun z => by
          have : P (loN u) ≤ P (loN u) ||| P o := Nat.left_le_or
          omega
        have skip : ∀ C : Mem, C = B → ¬ (u.testBit o = false ∧ faL L (P (loN u) ||| P o) = 0) → WA X d 0 0 m_X2_joinFrom 112 [some (vR a), some (vI (nI pre.length)), some (vI (nI u)), some (vI (zI (pwL L P g pre))), some (vI (nI (loN u))), some (vI (nI o + nI 1)), none] [] C Q := fun C hC hno => by
          subst hC
          rw [nI_add]
          refine ihj (o + 1) C sb (by omega) (by omega) hF hk2 hsb ?_
          unfold flP at he
          rw [if_neg hno, List.nil_append] at he
          exact he
        refine b_X2_joinFrom_112 x1 (by omega) ⟨fun q => absurd (by rw [x4, pk_mul, na_le (by omega) (by omega)] at q; omega) (id : False → False), fun _ => ⟨8, by rw [x3]; exact hF.ext.1 _ _ _ hkb, fun q => absurd (by rw [na_le (by decide) (by omega)] at q; omega) (id : False → False), fun _ => ⟨na_in (by omega) (by decide), na_in (by omega) (by decide), fun y1 ey => ?_⟩⟩⟩
        rw [x3, na_ix (by omega), na_ix (by omega), hPB _ hlo, hPB _ (by omega), na_or] at ey
        rw [ey, bit0 (by omega) (by omega)]
        refine ⟨fun q => skip B rfl (fun w => q w.1), fun q => ?_⟩
        rw [x2]
        refine ⟨hRB.1.1, kp_lawful hRB hset ⟨_, rfl, Ext.refl _, ?_⟩⟩
        rw [bI_0, lwB_fa hset0]
        refine ⟨fun q2 => skip B rfl (fun w => of_decide_eq_false q2 w.2), fun q2 => ⟨na_in (by omega) (by decide), fun M2 e2 => ?_⟩⟩
        have q2 : faL L (P (loN u) ||| P o) = 0 := by simpa using q2
        rw [na_ix (by omega)] at e2
        have hF2 : Fr (joS a) B M2 := by rw [e2]; exact Fr.sI (Or.inr rfl)
        have hX2 := (hX.fr hF).fr hF2
        have hR2 := hRB.fr hF2 (fun b k h1 h2 q => by unfold joS at q; omega)
        rw [hX2.2.1, hX2.2.2.2.2.2]
        refine ⟨hR2.1.1, kp_worth hR2 hset hg ⟨_, rfl, Ext.refl _, ?_⟩⟩
        have hz := zc_2 u hu (2 * m) (by omega) o (by omega) (by omega) q
        have e9 : (nI u ||| shl (nI 1) (nI (loN u))) ||| shl (nI 1) (nI o) = nI ((u ||| 2 ^ loN u) ||| 2 ^ o) := by rw [na_1shl (by omega), na_1shl (by omega), na_or, na_or]
        have hsb2 : joR M2 a sb := by
          unfold joR at hsb ⊢
          rw [e2, mI_sI_a (by omega), mI_sI_a (by omega)]; exact hsb
        rw [e9, zI_add, nI_add]
        have el : (pre ++ [(loN u, o)]).length = pre.length + 1 := by simp
        have ew : pwL L P g pre + wcL g (wnL L (P (loN u) ||| P o)) = pwL L P g (pre ++ [(loN u, o)]) := (pwL_snoc L P g (loN u, o) pre).symm
        rw [ew, ← el]
        refine ih (d - 1) ((u ||| 2 ^ loN u) ||| 2 ^ o) (pre ++ [(loN u, o)]) M2 _ sb (by rw [el]; omega) (by omega) (u_or hu (by omega) (by omega)) (by rw [el]; omega) (fun ps hps => ?_) (fun k hk => ?_) hX2 hR2 (hF2.ext.1 _ _ _ (hF.ext.1 _ _ _ hkb)) (fun h hh => ?_) hsb2 (fun C hFC hkC hC => ⟨rfl, hFC.ext, ?_⟩)
        · rw [List.append_assoc]
          exact hpre ((loN u, o) :: ps) ⟨hlo, rfl, hlo2, by show o < 2 * m; omega, q, q2, hps⟩
        · rw [el] at hk
          by_cases hkl : k = pre.length
          · subst hkl
            rw [getD_snoc]
            exact ⟨hset, by rw [e2, mI_sI_eq]; rfl⟩
          · rw [getD_pre (by omega)]
            obtain ⟨j1, j2⟩ := hjn k (by omega)
            refine ⟨j1, ?_⟩
            rw [e2, mI_sI_i hkl, hk2 k (by omega)]; exact j2
        · rw [hF2.at (fun q => by unfold joS at q; omega)]; exact hPB h hh
        · rw [nI_add]
          refine ihj (o + 1) C _ (by omega) (by omega) ((hF.trans hF2).trans hFC) (fun k hk => ?_) hC ?_
          · rw [hkC k (by rw [el]; omega), e2, mI_sI_i (by omega)]; exact hk2 k hk
          · rw [← he]
            show _ = joF L P NU pl g pre sb ((if u.testBit o = false ∧ faL L (P (loN u) ||| P o) = 0 then _ else _) ++ _)
            rw [joF_app, if_pos ⟨q, q2⟩, joF_map]
    have find : ∀ i k, k + i = loN u → WA X d 0 0 m_X2_joinFrom 80 [some (vR a), some (vI (nI pre.length)), some (vI (nI u)), some (vI (zI (pwL L P g pre))), some (vI (nI k)), none, none] [] M Q := by
      intro i
      induction i with
      | zero =>
        intro k hk
        obtain rfl : k = loN u := by omega
        obtain ⟨x1, x2, x3, x4, x5, x6⟩ := hX
        refine b_X2_joinFrom_80 x1 ⟨fun q => absurd (by rw [x4, pk_mul, na_le (by omega) (by omega)] at q; omega) (id : False → False), fun _ => ?_⟩
        rw [bit0 (by omega) (by omega)]
        refine ⟨fun _ y1 ey => ?_, fun q => absurd hlob q⟩
        rw [ey, nI_add]
        exact inner (2 * m - (loN u + 1)) (loN u + 1) M st (by omega) (Nat.lt_succ_self _) Fr.refl (fun _ _ => rfl) hst rfl
      | succ i ihi =>
        intro k hk
        obtain ⟨x1, x2, x3, x4, x5, x6⟩ := hX
        have hbk := lo_below u hu k (by omega)
        refine b_X2_joinFrom_80 x1 ⟨fun q => absurd (by rw [x4, pk_mul, na_le (by omega) (by omega)] at q; omega) (id : False → False), fun _ => ?_⟩
        rw [bit0 (by omega) (by omega)]
        refine ⟨fun q => absurd (hbk.symm.trans q) (by decide), fun _ => ?_⟩
        rw [nI_add]
        exact ihi (k + 1) (by omega)
    obtain ⟨x1, x2, x3, x4, x5, x6⟩ := hX
    exact e_X2_joinFrom (b_X2_joinFrom_0 x1 (by omega) ⟨fun _ => find (loN u) 0 (by omega), fun q => absurd (by rw [x4, na_lt (by omega) (by omega)]; omega) q⟩)
end JOIN
