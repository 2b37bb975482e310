theorem bnT_s1 (gr : Bool) (q : Option Int × Option Int) (v : Int) : (bnT gr q v).1.isSome = true := by
  obtain ⟨a, b⟩ := q
  unfold bnT
  cases a with
  | none => rfl
  | some x => dsimp only; split <;> split <;> rfl
theorem bnT_s2 (gr : Bool) (q : Option Int × Option Int) (v : Int) (h : q.1.isSome = true) : (bnT gr q v).2.isSome = true := by
  obtain ⟨a, b⟩ := q
  unfold bnT
  cases a with
  | none => cases h
  | some x => dsimp only; split <;> split <;> rfl
theorem bnF_s1 {α : Type} {gr : Bool} {f : α → Int} : ∀ (xs : List α) (q : Option Int × Option Int), q.1.isSome = true → (xs.foldl (fun q c => bnT gr q (f c)) q).1.isSome = true
  | [], q, h => h
  | c :: xs, q, h => bnF_s1 xs _ (bnT_s1 gr q (f c))
theorem bnF_s2 {α : Type} {gr : Bool} {f : α → Int} : ∀ (xs : List α) (q : Option Int × Option Int), q.1.isSome = true → q.2.isSome = true → (xs.foldl (fun q c => bnT gr q (f c)) q).2.isSome = true
  | [], q, _, h => h
  | c :: xs, q, h1, h => bnF_s2 xs _ (bnT_s1 gr q (f c)) (bnT_s2 gr q (f c) h1)
theorem cmB_s1 {L : LandT} {P : ProT} {g t o m : Nat} {gr : Bool} {C : Nat → Int} {xs : List Nat} (h : xs ≠ []) : (cmB L P g gr t C o m xs).1.isSome = true := by
  cases xs with
  | nil => exact absurd rfl h
  | cons c xs => exact bnF_s1 xs _ (bnT_s1 gr _ _)
theorem cmB_s2 {L : LandT} {P : ProT} {g t o m : Nat} {gr : Bool} {C : Nat → Int} {xs : List Nat} (h : 1 < xs.length) : (cmB L P g gr t C o m xs).2.isSome = true := by
  match xs, h with
  | c :: c' :: xs, _ => exact bnF_s2 xs _ (bnT_s1 gr _ _) (bnT_s2 gr _ _ (bnT_s1 gr _ _))
theorem oZ_some {q : Option Int} (h : q.isSome = true) : oZ q = zI (q.getD 0) := by
  cases q with
  | none => cases h
  | some v => rfl
section VAL
variable {X : Cx} {l p g : Nat} {L : LandT} {P : ProT} {ot : Bool}
/-- the contract of comes, for m seats -/
def CM (X : Cx) (l p : Nat) (L : LandT) (P : ProT) (g : Nat) (ot : Bool) (m : Nat) : Prop := ∀ (o d : Nat) (M : Mem) (Q : Option AV → Mem → Prop), o < 2 ^ L.1 → m ≤ L.2.1 → 4 * m + 25 ≤ d → VS M l p L P g ot → (∀ B : Mem, Fr (cmS m) M B → VS B l p L P g ot → Q (some (vI (zI (cmF L P g ot m o)))) B) → Cl X d 0 0 m_X11_comes [vR 75, vI (nI o), vI (nI m)] M Q
theorem dif_lt {a b n : Nat} (h : a < 2 ^ n) : dif a b < 2 ^ n := Nat.xor_lt_two_pow h (Nat.lt_of_le_of_lt Nat.and_le_left h)
theorem sp_keptValue {m c o s d : Nat} {M : Mem} {Q : Option AV → Mem → Prop} (hC : CM X l p L P g ot m) (hd : 4 * m + 26 ≤ d) (hV : VS M l p L P g ot) (hc : c < 4 ^ L.1) (ho : o < 2 ^ L.1) (hm : m + 1 ≤ L.2.1) (hic : nuF 2 L.1 c o L.1 = some (m + 1)) (hs : s < m + 1)
    (h : ∀ B : Mem, Fr (cmS m) M B → VS B l p L P g ot → Q (some (vI (zI (ktF L g (cmF L P g ot m) c o s)))) B) : Cl X d 0 0 m_X11_keptValue [vR 75, vI (nI c), vI (nI o), vI (nI (m + 1)), vI (nI s)] M Q := by
  have hV0 := hV
  obtain ⟨h1, h2, h3, h4, h5, h6, h7, h8, h9⟩ := hV
  have hb := h1.b
  have p4 := p4 hb.2.1
  have p512 := p9 hb.2.1
  refine e_X11_keptValue (b_X11_keptValue_0 h1.1 (by omega) (sp_seatOf (by omega) h1 (by omega) (by omega) (by omega) ⟨_, rfl, Ext.refl _, sp_worth h1 h7 h8 (nuF_pos hic hs) (sOB_lt _ _ _ _ _) ⟨_, rfl, Ext.refl _, ?_⟩⟩))
  rw [na_dif, na_sub (by omega), Nat.add_sub_cancel]
  refine hC _ _ _ _ (dif_lt ho) (by omega) (by omega) hV0 (fun B hF hVB => ⟨_, rfl, hF.ext, ?_⟩)
  rw [zI_add]
  exact h B hF hVB
theorem sp_keepValue {m c o d : Nat} {gr : Bool} {M : Mem} {Q : Option AV → Mem → Prop} (hC : CM X l p L P g ot m) (hd : 4 * m + 27 ≤ d) (hV : VS M l p L P g ot) (hc : c < 4 ^ L.1) (ho : o < 2 ^ L.1) (hm : m + 1 ≤ L.2.1) (hic : nuF 2 L.1 c o L.1 = some (m + 1))
    (h : ∀ B : Mem, Fr (cmS m) M B → VS B l p L P g ot → Q (some (vI (zI (kvF L g (cmF L P g ot m) c o (m + 1) gr)))) B) : Cl X d 0 0 m_X11_keepValue [vR 75, vI (nI c), vI (nI o), vI (nI (m + 1)), vI (bI gr)] M Q := by
  have hb := hV.1.b
  have hkt : ∀ s, -((m : Int) + 6) ≤ ktF L g (cmF L P g ot m) c o s ∧ ktF L g (cmF L P g ot m) c o s ≤ (m : Int) + 6 := fun s => by
    have h1 := woL_b g (wnL L (sOB 2 L.1 c o s))
    have h2 := cmF_b (L := L) (P := P) (g := g) (ot := ot) m (dif o (sOB 2 L.1 c o s))
    unfold ktF; omega
  have key : ∀ j s (acc : Option Int) (B : Mem), s + j = m + 1 → Fr (cmS m) M B → VS B l p L P g ot → (0 < s → acc.isSome = true) → (∀ v, acc = some v → -((m : Int) + 6) ≤ v ∧ v ≤ (m : Int) + 6) → fldR (fun acc s => some (beI gr acc (ktF L g (cmF L P g ot m) c o s))) j s acc = fldR (fun acc s => some (beI gr acc (ktF L g (cmF L P g ot m) c o s))) (m + 1) 0 (none : Option Int) →
      WA X d 0 0 m_X11_keepValue 8 [some (vR 75), some (vI (nI c)), some (vI (nI o)), some (vI (nI (m + 1))), some (vI (bI gr)), some (vI (oZ acc)), some (vI (nI s))] [] B Q := by
    intro j
    induction j with
    | zero =>
      intro s acc B hs hF hVB hsm hacc he
      obtain rfl : s = m + 1 := by omega
      simp only [fldR] at he
      refine b_X11_keepValue_8 hVB.1.1 (by omega) ⟨fun _ => ?_, fun q => absurd (by rw [na_le (by omega) (by omega)]; omega) q⟩
      have h9 := h B hF hVB
      unfold kvF at h9
      rw [fldR, ← he, ← oZ_some (hsm (by omega))] at h9
      exact h9
    | succ j jh =>
      intro s acc B hs hF hVB hsm hacc he
      refine b_X11_keepValue_8 hVB.1.1 (by omega) ⟨fun q => ?_, fun _ => sp_keptValue hC (by omega) hVB hc ho hm hic (by omega) (fun B2 hF2 hV2 => ⟨_, rfl, hF2.ext, ?_⟩)⟩
      · rw [na_le (by omega) (by omega)] at q; omega
      · have hk := hkt s
        refine sp_better (fun x hx => by have := hacc x hx; omega) (by omega) ⟨_, rfl, Ext.refl _, ?_⟩
        rw [nI_add]
        have := jh (s + 1) (some (beI gr acc (ktF L g (cmF L P g ot m) c o s))) B2 (by omega) (hF.trans hF2) hV2 (fun _ => rfl) (fun v hv => by cases hv; exact beI_b hacc hk) (by rw [← he]; rfl)
        exact this
  exact e_X11_keepValue (b_X11_keepValue_0 hV.1.1 (key (m + 1) 0 none M (by omega) Fr.refl hV (fun z => by omega) (fun v hv => by cases hv) rfl))
theorem sp_comesOf {m o d : Nat} {M : Mem} {Q : Option AV → Mem → Prop} (hC : CM X l p L P g ot m) (hd : 4 * m + 28 ≤ d) (hV : VS M l p L P g ot) (ho : o < 2 ^ L.1) (hm : m + 1 ≤ L.2.1)
    (h : ∀ B : Mem, Fr (cmS (m + 1)) M B → VS B l p L P g ot → Q (some (vI (zI (cmF L P g ot (m + 1) o)))) B) : Cl X d 0 0 m_X11_comesOf [vR 75, vI (nI o), vI (nI (m + 1))] M Q := by
  have hV0 := hV
  obtain ⟨h1, h2, h3, h4, h5, h6, h7, h8, h9⟩ := hV
  have hb := h1.b
  have p4 := p4 hb.2.1
  have p512 := p9 hb.2.1
  have hp1 := h3.1
  have hp6 := h3.2.1
  have ht : (L.2.1 - (m + 1)) % P.1 < P.1 := Nat.mod_lt _ (by omega)
  have hdo := (h3.2.2 ((L.2.1 - (m + 1)) % P.1)).2
  have hdr := drF_le h3 ot ((L.2.1 - (m + 1)) % P.1)
  unfold cmF at h
  generalize hgt : (L.2.1 - (m + 1)) % P.1 = t at ht hdo hdr h
  have hin : vp_in (nI (6 * p + t)) 54 := na_in (by omega) (by omega)
  have hx : ix (nI (6 * p + t)) = 6 * p + t := na_ix (by omega)
  refine e_X11_comesOf (b_X11_comesOf_0 h1.1 (by omega) (sp_roundOf hV0 hm ⟨_, rfl, Ext.refl _, ?_⟩))
  rw [hgt, hx, (h4.2 t ht).2]
  refine ⟨hin, fun x2 e2 => ⟨hin, fun q => ?_, fun q => ?_⟩⟩
  · rw [na_eq (by omega) (by omega)] at q
    rw [(h4.2 t ht).1, h6, xor_b (h3.2.2 t).1] at e2
    have e2 : x2 = nI (drF P ot t) := e2
    subst e2
    rw [if_neg q] at h
    have hlen := lsL_len (L := L) (o := o) hb.2.1 (show m + 1 ≤ 4 by omega)
    refine sp_list (by omega) (by omega) ho (by omega) h1 (fun B0 hF0 hst0 => ⟨_, rfl, hF0.ext, ?_⟩)
    have hV1 := hV0.fr (lfS_vs hF0)
    have hok : ∀ c, c ∈ lsL L o (m + 1) → c < 4 ^ L.1 ∧ nuF 2 L.1 c o L.1 = some (m + 1) := fun c hc => ⟨(lsL_ok (by omega) hc).1, (lsL_ok (by omega) hc).2.1⟩
    have hs1 := fun hne => cmB_s1 (L := L) (P := P) (g := g) (t := t) (o := o) (m := m + 1) (gr := grB g (drF P ot t)) (C := cmF L P g ot m) (xs := lsL L o (m + 1)) hne
    have hs2 := fun hne => cmB_s2 (L := L) (P := P) (g := g) (t := t) (o := o) (m := m + 1) (gr := grB g (drF P ot t)) (C := cmF L P g ot m) (xs := lsL L o (m + 1)) hne
    have hcv : ∀ c, -((m : Int) + 6) ≤ cmV L P g (grB g (drF P ot t)) t (cmF L P g ot m) o (m + 1) c ∧ cmV L P g (grB g (drF P ot t)) t (cmF L P g ot m) o (m + 1) c ≤ (m : Int) + 6 := fun c => by
      unfold cmV
      split
      · have := kvF_b (L := L) (g := g) (c := c) (o := o) (m := m + 1) (gr := !grB g (drF P ot t)) (n := (m : Int) + 5) (by omega) (fun x => cmF_b (L := L) (P := P) (g := g) (ot := ot) m x); omega
      · have := cwL_b L g c o (m + 1); omega
    unfold cmB at h hs1 hs2
    revert hst0 hlen hok h hs1 hs2
    generalize lsL L o (m + 1) = ys
    intro h hlen hst0 hok hs1 hs2
    generalize hgr : grB g (drF P ot t) = gr at h hs1 hs2 hcv
    have key : ∀ (xs pre : List Nat) (b nx : Option Int) (B : Mem), ys = pre ++ xs → Fr (cmS (m + 1)) M B → Fr (cmS m) B0 B → VS B l p L P g ot → inI (-((m : Int) + 6)) ((m : Int) + 6) b → inI (-((m : Int) + 6)) ((m : Int) + 6) nx →
        xs.foldl (fun q c => bnT gr q (cmV L P g gr t (cmF L P g ot m) o (m + 1) c)) (b, nx) = ys.foldl (fun q c => bnT gr q (cmV L P g gr t (cmF L P g ot m) o (m + 1) c)) (none, none) →
        WA X d 0 0 m_X11_comesOf 64 [some (vR 75), some (vI (nI o)), some (vI (nI (m + 1))), some (vI (nI (6 * p + t))), some (vI (nI (drF P ot t))), some (vI (nI ys.length)), some (vI (oZ b)), some (vI (oZ nx)), some (vI (nI pre.length)), none, none, none] [] B Q := by
      intro xs
      induction xs with
      | nil =>
        intro pre b nx B hys hF hF0B hVB hb0 hnx he
        have hl : ys.length = pre.length := by rw [hys]; simp
        obtain ⟨v1, v2, v3, v4, v5, v6, v7, v8, v9⟩ := hVB
        simp only [List.foldl_nil] at he
        have hfin := h B hF ⟨v1, v2, v3, v4, v5, v6, v7, v8, v9⟩
        rw [← he] at hfin hs1 hs2
        refine b_X11_comesOf_64 v1.1 (by omega) ⟨fun _ => ⟨fun q2 => ⟨hin, ?_⟩, fun q2 => ?_⟩, fun q2 => absurd (by rw [na_le (by omega) (by omega)]; omega) q2⟩
        · rw [na_eq (by omega) (by omega)] at q2
          have hne : ys ≠ [] := fun z => q2 (by rw [z]; rfl)
          rw [if_neg hne] at hfin
          have s1 := hs1 hne
          rw [hx, (v4.2 t ht).2]
          refine ⟨fun q3 => ?_, fun q3 => ⟨fun q4 => ?_, fun q4 => ?_⟩⟩
          · rw [na_eq (by omega) (by omega)] at q3
            rw [if_neg (fun z => q3 z.1), ← oZ_some s1] at hfin
            exact hfin
          · rw [na_le (by omega) (by omega)] at q4
            rw [if_neg (fun z => by omega), ← oZ_some s1] at hfin
            exact hfin
          · rw [na_eq (by omega) (by omega)] at q3
            rw [na_le (by omega) (by omega)] at q4
            rw [if_pos ⟨q3, by omega⟩, ← oZ_some (hs2 (by omega))] at hfin
            exact hfin
        · rw [na_eq (by omega) (by omega)] at q2
          have he : ys = [] := List.eq_nil_of_length_eq_zero q2
          rw [if_pos he] at hfin
          exact hfin
      | cons c xs ih =>
        intro pre b nx B hys hF hF0B hVB hb0 hnx he
        have hpl : ys[pre.length]? = some c := by rw [hys]; simp
        have hlt := (List.getElem?_eq_some_iff.mp hpl).1
        have hys2 : ys = (pre ++ [c]) ++ xs := by rw [hys]; simp
        have hpl2 : (pre ++ [c]).length = pre.length + 1 := by simp
        obtain ⟨o1, o2⟩ := hok c (by rw [hys]; simp)
        have e74 : mI B 89 (8000 * (m + 1) + pre.length) = nI c := by
          rw [hF0B.at (by unfold cmS; omega)]; exact hst0 _ _ hpl
        have hcv1 := hcv c
        have eidx : nI 8000 * nI (m + 1) + nI pre.length = nI (8000 * (m + 1) + pre.length) := by rw [pk_mul, nI_add]
        -- behind the value
        have h122 : ∀ B2 : Mem, Fr (cmS m) B B2 → VS B2 l p L P g ot → WA X d 0 0 m_X11_comesOf 122 [some (vR 75), some (vI (nI o)), some (vI (nI (m + 1))), some (vI (nI (6 * p + t))), some (vI (nI (drF P ot t))), some (vI (nI ys.length)), some (vI (oZ b)), some (vI (oZ nx)), some (vI (nI pre.length)), none, none, none] [vI (zI (cmV L P g gr t (cmF L P g ot m) o (m + 1) c))] B2 Q := by
          intro B2 hFB2 hV2
          have hV2' := hV2
          obtain ⟨v1, v2, v3, v4, v5, v6, v7, v8, v9⟩ := hV2
          generalize hvv : cmV L P g gr t (cmF L P g ot m) o (m + 1) c = v at hcv1
          have next : ∀ b' nx', inI (-((m : Int) + 6)) ((m : Int) + 6) b' → inI (-((m : Int) + 6)) ((m : Int) + 6) nx' → bnT gr (b, nx) v = (b', nx') → WA X d 0 0 m_X11_comesOf 64 [some (vR 75), some (vI (nI o)), some (vI (nI (m + 1))), some (vI (nI (6 * p + t))), some (vI (nI (drF P ot t))), some (vI (nI ys.length)), some (vI (oZ b')), some (vI (oZ nx')), some (vI (nI pre.length + nI 1)), none, none, none] [] B2 Q := fun b' nx' hb' hnx' hbn => by
            have := ih (pre ++ [c]) b' nx' B2 hys2 (hF.trans (cmS_mono hFB2 (by omega))) (hF0B.trans hFB2) hV2' hb' hnx' (by rw [← he, List.foldl_cons, hvv, hbn])
            rw [hpl2] at this
            rw [nI_add]; exact this
          have h157 : (b = none ∨ ∃ x, b = some x ∧ (if gr then x < v else v < x)) → WA X d 0 0 m_X11_comesOf 157 [some (vR 75), some (vI (nI o)), some (vI (nI (m + 1))), some (vI (nI (6 * p + t))), some (vI (nI (drF P ot t))), some (vI (nI ys.length)), some (vI (oZ b)), some (vI (oZ nx)), some (vI (nI pre.length)), none, some (vI (zI v)), none] [] B2 Q := by
            intro hcase
            refine b_X11_comesOf_157 v1.1 (b_X11_comesOf_162 v1.1 (by omega) ⟨fun z => absurd z (by decide), fun _ => b_X11_comesOf_187 v1.1 ⟨fun z => absurd z (by decide), fun _ => ?_⟩⟩)
            refine next (some v) b (fun x hx => by cases hx; exact hcv1) hb0 ?_
            rcases hcase with rfl | ⟨x, rfl, hx⟩
            · rfl
            · unfold bnT; dsimp only; rw [if_pos hx]
          have h161 : (∃ x, b = some x ∧ ¬ (if gr then x < v else v < x)) → WA X d 0 0 m_X11_comesOf 161 [some (vR 75), some (vI (nI o)), some (vI (nI (m + 1))), some (vI (nI (6 * p + t))), some (vI (nI (drF P ot t))), some (vI (nI ys.length)), some (vI (oZ b)), some (vI (oZ nx)), some (vI (nI pre.length)), none, some (vI (zI v)), none] [] B2 Q := by
            rintro ⟨x, rfl, hx⟩
            refine b_X11_comesOf_161 v1.1 (b_X11_comesOf_162 v1.1 (by omega) ⟨fun _ => sp_great v1.1 v7 v8 hdr ⟨_, rfl, Ext.refl _, ?_⟩, fun z => absurd rfl z⟩)
            rw [hgr]
            refine sp_better (fun y hy => by have := hnx y hy; omega) (by omega) ⟨_, rfl, Ext.refl _, b_X11_comesOf_187 v1.1 ⟨fun _ => ?_, fun z => absurd rfl z⟩⟩
            refine next (some x) (some (beI gr nx v)) hb0 (fun y hy => by cases hy; exact beI_b hnx hcv1) ?_
            unfold bnT; dsimp only; rw [if_neg hx]
          refine b_X11_comesOf_122 v1.1 (by omega) (sp_great v1.1 v7 v8 hdr ⟨_, rfl, Ext.refl _, ?_⟩)
          rw [hgr]
          have hbv := beI_b (gr := gr) (v := v) hb0 hcv1
          refine sp_better (fun y hy => by have := hb0 y hy; omega) (by omega) ⟨_, rfl, Ext.refl _, fun q2 => ?_, fun q2 => ⟨fun q3 => ?_, fun q3 => ⟨fun q4 => ?_, fun q4 => ?_⟩⟩⟩
          · rw [zI_eq (by omega) (by omega) (by omega) (by omega)] at q2
            cases b with
            | none => exact absurd rfl q2
            | some x =>
              refine h161 ⟨x, rfl, fun z => q2 ?_⟩
              unfold beI; dsimp only; rw [if_pos z]
          · rw [oZ_none (fun y hy => by have := hb0 y hy; omega)] at q3
            exact h157 (Or.inl q3)
          · cases b with
            | none => exact absurd rfl q3
            | some x =>
              have hxb := hb0 x rfl
              have q4 : zI v = zI x := q4
              rw [zI_eq (by omega) (by omega) (by omega) (by omega)] at q4
              refine h161 ⟨x, rfl, ?_⟩
              rw [q4]
              split <;> omega
          · cases b with
            | none => exact absurd rfl q3
            | some x =>
              have hxb := hb0 x rfl
              have q4 : ¬ zI v = zI x := q4
              rw [zI_eq (by omega) (by omega) (by omega) (by omega)] at q4 q2
              refine h157 (Or.inr ⟨x, rfl, ?_⟩)
              unfold beI at q2
              dsimp only at q2
              by_cases hc2 : (if gr = true then x < v else v < x)
              · exact hc2
              · rw [if_neg hc2] at q2; exact absurd q2.symm q4
        have hVB' := hVB
        obtain ⟨v1, v2, v3, v4, v5, v6, v7, v8, v9⟩ := hVB
        refine b_X11_comesOf_64 v1.1 (by omega) ⟨fun q2 => ?_, fun _ => ?_⟩
        · rw [na_le (by omega) (by omega)] at q2; omega
        rw [eidx]
        refine ⟨na_in (by omega) (by omega), fun x1 e1 => ?_⟩
        rw [na_ix (by omega), e74] at e1
        subst e1
        rw [hx, (v4.2 t ht).2]
        refine ⟨hin, fun q2 => ?_, fun q2 => ?_⟩
        · rw [na_eq (by omega) (by omega)] at q2
          refine sp_cutWorth (by omega) v1 v7 v8 (by omega) (by omega) (by omega) o2 ⟨_, rfl, Ext.refl _, ?_⟩
          have := h122 B Fr.refl hVB'
          unfold cmV at this
          rw [if_neg q2] at this
          exact this
        · rw [na_eq (by omega) (by omega)] at q2
          rw [na_sub (by omega)]
          refine sp_great v1.1 v7 v8 (by omega) ⟨_, rfl, Ext.refl _, ?_⟩
          rw [grB_not hdr, hgr]
          refine sp_keepValue hC (by omega) hVB' o1 ho hm o2 (fun B2 hF2 hV2 => ⟨_, rfl, hF2.ext, ?_⟩)
          have := h122 B2 hF2 hV2
          unfold cmV at this
          rw [if_pos q2] at this
          exact this
    exact key ys [] none none B0 rfl (lfS_cm hF0) Fr.refl hV1 (fun v hv => by cases hv) (fun v hv => by cases hv) rfl
  · rw [na_eq (by omega) (by omega)] at q
    rw [(h4.2 t ht).1, h6, xor_b (h3.2.2 t).1] at e2
    have e2 : x2 = nI (drF P ot t) := e2
    subst e2
    rw [if_pos q] at h
    refine sp_great h1.1 h7 h8 hdr ⟨_, rfl, Ext.refl _, sp_halvesValue (by omega) ho (by omega) h7 h8 h1 (fun B hF hk => ⟨_, rfl, hF.ext, ?_⟩)⟩
    have h9 := h B (hvS_cm hF) (hV0.fr (hvS_vs hF))
    revert h9
    cases hvF L g (grB g (drF P ot t)) true o (m + 1) with
    | none => exact fun z => z
    | some v => exact fun z => z
theorem sp_comes : ∀ m, CM X l p L P g ot m
  | 0 => by
    intro o d M Q ho hm hd hV h
    exact e_X11_comes (b_X11_comes_0 hV.1.1 (by omega) ⟨fun q => absurd rfl q, fun _ => h M Fr.refl hV⟩)
  | m + 1 => by
    intro o d M Q ho hm hd hV h
    have hC := sp_comes m
    have hb := hV.1.b
    have p512 := p9 hb.2.1
    have hin : vp_in (nI (512 * (m + 1) + o)) 2560 := na_in (by omega) (by omega)
    have hx : ix (nI (512 * (m + 1) + o)) = 512 * (m + 1) + o := na_ix (by omega)
    refine e_X11_comes (b_X11_comes_0 hV.1.1 (by omega) ⟨fun _ x1 e1 => ?_, fun q => by rw [na_eq (by omega) (by omega)] at q; omega⟩)
    have e1 : x1 = nI (512 * (m + 1) + o) := by rw [e1, pk_mul, nI_add]
    subst e1
    rw [hx]
    refine ⟨hin, fun q => ⟨hin, ?_⟩, fun q => sp_comesOf hC (by omega) hV ho hm (fun B hF hVB => ⟨_, rfl, hF.ext, hin, fun M2 e2 => ⟨hin, fun M3 e3 => ⟨hin, ?_⟩⟩⟩)⟩
    · rw [hV.2.2.2.2.2.2.2.2 (m + 1) o (by omega) (by omega) q]
      exact h M Fr.refl hV
    · have e79 : mI M3 94 (512 * (m + 1) + o) = zI (cmF L P g ot (m + 1) o) := by rw [e3, mI_sI_a (by decide), e2, mI_sI_eq]
      rw [e79]
      have hF3 : Fr (cmS (m + 1)) B M3 := by
        rw [e3, e2]
        exact (Fr.sI (by unfold cmS; omega)).trans (Fr.sI (by unfold cmS; omega))
      refine h M3 (hF.trans hF3) ?_
      obtain ⟨v1, v2, v3, v4, v5, v6, v7, v8, v9⟩ := hVB
      have o3 : ∀ k, mI M3 75 k = mI B 75 k := fun k => by rw [e3, mI_sI_a (by decide), e2, mI_sI_a (by decide)]
      refine ⟨v1.ss (cmS_ss hF3), v2, v3, v4.sc (ssS_sc (cmS_ss hF3)), (o3 _).trans v5, (o3 _).trans v6, (o3 _).trans v7, v8, fun m' o' hm' ho' hk => ?_⟩
      by_cases hq : 512 * m' + o' = 512 * (m + 1) + o
      · have hmm : m' = m + 1 := by omega
        have hoo : o' = o := by omega
        subst hmm
        subst hoo
        exact e79
      · rw [e3, mI_sI_i hq, e2, mI_sI_a (by decide)] at hk
        rw [e3, mI_sI_a (by decide), e2, mI_sI_i hq]
        exact v9 m' o' hm' ho' hk
theorem sp_begin {d : Nat} {M : Mem} {Q : Option AV → Mem → Prop} (hS : RfS M) (h : ∀ B : Mem, Fr ssS M B → mI B 75 36 = nI g → (∀ k, k < 2560 → mI B 95 k = nI 0) → Q none B) : Cl X d 0 0 m_X11_begin [vR 75, vI (nI g)] M Q := by
  have key : ∀ r k (B : Mem), k + r = 2560 → Fr ssS M B → mI B 75 36 = nI g → (∀ j, j < k → mI B 95 j = nI 0) → WA X d 0 0 m_X11_begin 7 [some (vR 75), none, some (vI (nI k))] [] B Q := by
    intro r
    induction r with
    | zero =>
      intro k B hk hF h36 hz
      obtain rfl : k = 2560 := by omega
      exact b_X11_begin_7 (hS.fr hF) ⟨fun _ => h B hF h36 hz, fun q => absurd (Int32.le_refl _) q⟩
    | succ r ih =>
      intro k B hk hF h36 hz
      refine b_X11_begin_7 (hS.fr hF) ⟨fun q => ?_, fun _ => ⟨na_in (by omega) (by omega), fun M1 e1 => ?_⟩⟩
      · rw [na_le (by omega) (by omega)] at q; omega
      · rw [na_ix (by omega)] at e1
        rw [nI_add]
        refine ih (k + 1) M1 (by omega) (by rw [e1]; exact hF.trans (Fr.sI (by unfold ssS; omega))) (by rw [e1, mI_sI_a (by decide)]; exact h36) (fun j hj => ?_)
        rw [e1, mI_sI]
        by_cases hq : j = k
        · rw [if_pos ⟨rfl, hq⟩]; decide
        · rw [if_neg (fun z => hq z.2)]; exact hz j (by omega)
  refine e_X11_begin (b_X11_begin_0 hS (fun M1 e1 => ?_))
  exact key 2560 0 M1 (by omega) (by rw [e1]; exact Fr.sI (by unfold ssS; omega)) (by rw [e1, mI_sI_eq]) (fun j hj => by omega)
end VAL
