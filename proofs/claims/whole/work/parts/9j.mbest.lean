/-! THE BEST MOVE AT A ROUND'S BEGINNING -/
def rbF (L : LandT) (P : ProT) (g : Nat) (ot : Bool) (m o : Nat) : Option (Int × Nat) :=
  if P.2.2 ((L.2.1 - m) % P.1) = 1 then hvF L g (grB g (drF P ot ((L.2.1 - m) % P.1))) true o m
  else if P.2.2 ((L.2.1 - m) % P.1) = 2 then prF (grB g (drF P ot ((L.2.1 - m) % P.1))) (fun c => cwL L g c o m) (lsL L o m)
  else fbF (grB g (drF P ot ((L.2.1 - m) % P.1))) (fun c => cmV L P g (grB g (drF P ot ((L.2.1 - m) % P.1))) ((L.2.1 - m) % P.1) (cmF L P g ot (m - 1)) o m c) (lsL L o m) none
def vlO (q : Option (Int × Nat)) : Int := match q with
  | none => 0
  | some q => q.1
/-- the number of a move found, or -1 -/
def chI (q : Option (Int × Nat)) : Int32 := match q with
  | none => -1
  | some q => nI q.2
theorem getD_map (q : Option (Int × Nat)) : (q.map (·.1)).getD 0 = vlO q := by cases q <;> rfl
theorem rb_val {L : LandT} {P : ProT} {g : Nat} {ot : Bool} (m o : Nat) : cmF L P g ot (m + 1) o = vlO (rbF L P g ot (m + 1) o) := by
  unfold rbF
  rw [cmF]
  by_cases h1 : P.2.2 ((L.2.1 - (m + 1)) % P.1) = 1
  · rw [if_pos h1, if_pos h1]
    cases hvF L g (grB g (drF P ot ((L.2.1 - (m + 1)) % P.1))) true o (m + 1) <;> rfl
  rw [if_neg h1, if_neg h1]
  by_cases h2 : P.2.2 ((L.2.1 - (m + 1)) % P.1) = 2
  · rw [if_pos h2]
    cases hl : lsL L o (m + 1) with
    | nil => rw [if_pos rfl]; rfl
    | cons y ys =>
      rw [if_neg (by simp)]
      have ev : ∀ gr c, cmV L P g gr ((L.2.1 - (m + 1)) % P.1) (cmF L P g ot m) o (m + 1) c = cwL L g c o (m + 1) := fun gr c => by unfold cmV; rw [if_neg (by omega)]
      cases ys with
      | nil =>
        rw [if_neg (by simp)]
        unfold cmB
        rw [List.foldl_cons, List.foldl_nil, ev]
        rfl
      | cons z ys =>
        rw [if_pos ⟨h2, by simp⟩]
        obtain ⟨s, n, a1, a2, a3⟩ := prF_two (gr := grB g (drF P ot ((L.2.1 - (m + 1)) % P.1))) (W := fun c => cwL L g c o (m + 1)) (y := y) (z := z) (ys := ys)
        have e : (fun (q : Option Int × Option Int) c => bnT (grB g (drF P ot ((L.2.1 - (m + 1)) % P.1))) q (cmV L P g (grB g (drF P ot ((L.2.1 - (m + 1)) % P.1))) ((L.2.1 - (m + 1)) % P.1) (cmF L P g ot m) o (m + 1) c)) = (fun q c => bnT (grB g (drF P ot ((L.2.1 - (m + 1)) % P.1))) q (cwL L g c o (m + 1))) := by
          funext q c; rw [ev]
        unfold cmB
        rw [e, a1, a2]
        rfl
  · rw [if_neg h2]
    cases hl : lsL L o (m + 1) with
    | nil => rw [if_pos rfl]; rfl
    | cons y ys =>
      rw [if_neg (by simp), if_neg (fun w => h2 w.1)]
      have := fb_bn (grB g (drF P ot ((L.2.1 - (m + 1)) % P.1))) (fun c => cmV L P g (grB g (drF P ot ((L.2.1 - (m + 1)) % P.1))) ((L.2.1 - (m + 1)) % P.1) (cmF L P g ot m) o (m + 1) c) (y :: ys) none none
      have this : (cmB L P g (grB g (drF P ot ((L.2.1 - (m + 1)) % P.1))) ((L.2.1 - (m + 1)) % P.1) (cmF L P g ot m) o (m + 1) (y :: ys)).1 = _ := this
      rw [this, getD_map]
      rfl
/-- the phase is of the round's kind -/
def PHK (P : ProT) (G : GamT) : Prop := (gPh G = 0 → P.2.2 (gTu G) = 0) ∧ (gPh G = 2 → P.2.2 (gTu G) = 3) ∧ (gPh G = 3 → P.2.2 (gTu G) = 1) ∧ (gPh G = 5 → P.2.2 (gTu G) = 2)
theorem PHK_no {P : ProT} {G : GamT} (h : gPh G = 1 ∨ gPh G = 4 ∨ 6 ≤ gPh G) : PHK P G := ⟨fun w => by omega, fun w => by omega, fun w => by omega, fun w => by omega⟩
theorem PHK_sr {L : LandT} {P : ProT} (hO : ProOK P) {o m t : Nat} {r : Nat × Nat × List Nat} : PHK P (srF L P o m t, o, m, t, r) := by
  have h3 := (hO.2.2 t).2
  have e : gPh (srF L P o m t, o, m, t, r) = srF L P o m t := rfl
  have e2 : gTu (srF L P o m t, o, m, t, r) = t := rfl
  unfold PHK
  rw [e, e2]
  unfold srF
  generalize (if P.2.2 t = 1 then (hvF L 0 false false o m).isSome else decide (0 < (lsL L o m).length)) = b
  rcases (show P.2.2 t = 0 ∨ P.2.2 t = 1 ∨ P.2.2 t = 2 ∨ P.2.2 t = 3 by omega) with w | w | w | w <;> rw [w] <;> cases b <;> simp
theorem PHK_mv {L : LandT} {P : ProT} (hO : ProOK P) {G : GamT} (x : Nat) : PHK P (mvG L P G x) := by
  have kp : ∀ G' c, PHK P (kpG L G' c) := fun G' c => PHK_no (Or.inr (Or.inr (by show 6 ≤ 8; omega)))
  unfold mvG
  split
  · exact PHK_no (Or.inl rfl)
  · split
    · dsimp only
      split
      · exact PHK_no (Or.inr (Or.inr (by show 6 ≤ 8; omega)))
      · exact PHK_sr hO
    · split
      · exact PHK_no (Or.inr (Or.inl rfl))
      · split
        · split
          · exact kp _ _
          · exact PHK_no (Or.inr (Or.inr (by show 6 ≤ 6; omega)))
        · split
          · exact PHK_no (Or.inr (Or.inr (by show 6 ≤ 7; omega)))
          · split
            · exact kp _ _
            · exact kp _ _
theorem PHK_pl {L : LandT} {P : ProT} (hO : ProOK P) (mv : List Nat) : PHK P (plG L P mv) := by
  unfold plG
  have : ∀ (mv : List Nat) (G : GamT), PHK P G → PHK P (mv.foldl (mvG L P) G) := by
    intro mv
    induction mv with
    | nil => intro G h; exact h
    | cons x mv ih => intro G h; exact ih _ (PHK_mv hO x)
  exact this mv _ (PHK_sr hO)
theorem sb_rb {L : LandT} {P : ProT} {g : Nat} {ot : Bool} {G : GamT} (hp : PHK P G) (hK : GOK L P G) (hph : gPh G = 0 ∨ gPh G = 2 ∨ gPh G = 3 ∨ gPh G = 5) : sbF L P g ot G = rbF L P g ot (gLe G) (gOp G) := by
  obtain ⟨g1, g2, g3, g4, g5, g6, g7, g8, g9, g10, g11⟩ := hK
  obtain ⟨hle, htu⟩ := g8 (by omega)
  obtain ⟨p0, p2, p3, p5⟩ := hp
  have et : (L.2.1 - gLe G) % P.1 = gTu G := by rw [htu]; congr 1; omega
  have em : moF P ot G = drF P ot (gTu G) := by unfold moF; rw [if_neg (by omega)]
  unfold sbF rbF
  rw [et, em]
  rcases hph with h | h | h | h
  · rw [if_neg (by omega), if_neg (by omega), if_neg (by omega), if_neg (by omega), if_neg (by rw [p0 h]; decide), if_neg (by rw [p0 h]; decide)]
    unfold fbF
    congr 1
    funext acc c
    unfold scT cmV
    rw [if_pos h]
    dsimp only
    rw [if_pos (p0 h)]
  · rw [if_neg (by omega), if_neg (by omega), if_neg (by omega), if_neg (by omega), if_neg (by rw [p2 h]; decide), if_neg (by rw [p2 h]; decide)]
    unfold fbF
    congr 1
    funext acc c
    unfold scT cmV
    rw [if_neg (by omega), if_pos (Or.inl h)]
    dsimp only
    rw [if_neg (by rw [p2 h]; decide)]
  · rw [if_neg (by omega), if_pos h, if_pos (p3 h)]
  · rw [if_neg (by omega), if_neg (by omega), if_pos h, if_neg (by rw [p5 h]; decide), if_pos (p5 h)]
/-- a seat to be kept -/
def fkF (L : LandT) (g : Nat) (C : Nat → Int) (c o m : Nat) (gr : Bool) : Option (Int × Nat) := fldR (fun acc s => ofT gr acc s (ktF L g C c o s)) m 0 none
theorem kv_fk {L : LandT} {g : Nat} {C : Nat → Int} {c o m : Nat} {gr : Bool} : kvF L g C c o m gr = vlO (fkF L g C c o m gr) := by
  have key : ∀ j s (b : Option (Int × Nat)), fldR (fun acc s => some (beI gr acc (ktF L g C c o s))) j s (b.map (·.1)) = (fldR (fun acc s => ofT gr acc s (ktF L g C c o s)) j s b).map (·.1) := by
    intro j
    induction j with
    | zero => intro s b; rfl
    | succ j ih =>
      intro s b
      rw [fldR, fldR, ← ih]
      congr 1
      unfold beI ofT
      cases b with
      | none => rfl
      | some q =>
        show some (if (if gr = true then q.1 < ktF L g C c o s else ktF L g C c o s < q.1) then ktF L g C c o s else q.1) = (if (if gr = true then q.1 < ktF L g C c o s else ktF L g C c o s < q.1) then some (ktF L g C c o s, s) else some q).map (·.1)
        split <;> split <;> rfl
  have := key m 0 none
  unfold kvF fkF
  have this : fldR (fun acc s => some (beI gr acc (ktF L g C c o s))) m 0 none = _ := this
  rw [this, getD_map]
theorem sgI_add (g : Nat) (x y : Int) : sgI g (x + y) = sgI g x + sgI g y := by unfold sgI; split <;> omega
theorem sgI_0 (g : Nat) : sgI g 0 = 0 := by unfold sgI; split <;> rfl
theorem sgI_b (g : Nat) {x n : Int} (h : -n ≤ x ∧ x ≤ n) : -n ≤ sgI g x ∧ sgI g x ≤ n := by unfold sgI; split <;> omega
theorem smZ_sg (g : Nat) (f : Nat → Int) : ∀ n, smZ n (fun s => sgI g (f s)) = sgI g (smZ n f)
  | 0 => (sgI_0 g).symm
  | n + 1 => by
    show smZ n (fun s => sgI g (f s)) + sgI g (f n) = sgI g (smZ n f + f n)
    rw [smZ_sg g f n, sgI_add]
theorem cw_sg (L : LandT) (g c o m : Nat) : smZ m (fun s => wcL g (wnL L (sOB 2 L.1 c o s))) = sgI g (cwL L g c o m) := smZ_sg g (fun s => woL g (wnL L (sOB 2 L.1 c o s))) m
theorem kw_sg (L : LandT) (g : Nat) (ks : List Nat) : smZ ks.length (fun s => wcL g (wnL L (ks.getD s 0))) = sgI g (kwL L g ks) := smZ_sg g (fun k => woL g (wnL L (ks.getD k 0))) ks.length
/-- a strict better, of two values in a's words -/
theorem prB_of {g pl : Nat} {x y : Int} (hpl : pl ≤ 1) : prB pl (sgI g x) (sgI g y) = (if grB g pl then decide (y < x) else decide (x < y)) := by
  have := prB_sg (g := g) (pl := pl) (x := x) (y := y) hpl
  unfold btB at this
  cases hp : prB pl (sgI g x) (sgI g y) with
  | true =>
    have := this.mp hp
    cases hg : grB g pl <;> rw [hg] at this <;> simp at this ⊢ <;> omega
  | false =>
    have h2 : ¬ (if grB g pl = true then y < x else x < y) := fun w => by rw [this.mpr w] at hp; cases hp
    cases hg : grB g pl <;> rw [hg] at h2 <;> simp at h2 ⊢ <;> omega
