/-! ROWS on arrays, what is made, calls -/
section ARR
variable {X : Cx} {d kc ns : Nat} {mt : MT} {pc n : Nat} {L L' : List (Option AV)} {S : List AV} {M : Mem} {Q : Option AV → Mem → Prop}
theorem fitI (x : Int32) : narrow .int (.int x) = .int x ∧ fits .int (.int x) = true := ⟨rfl, rfl⟩
theorem fitR {t : FieldType} (ht : (match t with | .array _ => true | .object _ => true | _ => false) = true) (b0 a : Nat) : narrow t (va_rf (rO b0 a)) = va_rf (rO b0 a) ∧ fits t (va_rf (rO b0 a)) = true := by
  unfold rO
  cases t <;> first | (cases ht; done) | (by_cases h : a = 0 <;> simp [h, va_rf, narrow, fits])
def isB (x : Int32) : Prop := x = 0 ∨ x = 1
theorem fitZ {x : Int32} (h : isB x) : narrow .boolean (.int x) = .int x ∧ fits .boolean (.int x) = true := by
  rcases h with rfl | rfl <;> decide
/-- may this method store into this field: not final, or final in its own constructor -/
def fnl (mt : MT) (idx ci k : Nat) : Prop := (TC ci k).2.2.2 = false ∨ ((TC ci k).2.2.2 = true ∧ mt.1.name = "<init>" ∧ mt.1.cls = nmC ci ∧ Cond.fieldLink mt.1.cls idx (nmC ci) (TC ci k).2.1 (TC ci k).2.2.1 ∈ lw_tbl)
theorem sI_off {b0 : Nat} {cy : Nat → ClassId} {a i : Nat} {v : Int32} : ∀ b, b ≠ a → cE b0 cy (sI M a i v) b = cE b0 cy M b := fun b hb => cE_off rfl (up2_off hb) rfl rfl
theorem sR_off {b0 : Nat} {cy : Nat → ClassId} {a i v : Nat} : ∀ b, b ≠ a → cE b0 cy (sR M a i v) b = cE b0 cy M b := fun b hb => cE_off rfl rfl (up2_off hb) rfl
theorem sJ_off {b0 : Nat} {cy : Nat → ClassId} {a i : Nat} {v : Int64} : ∀ b, b ≠ a → cE b0 cy (sJ M a i v) b = cE b0 cy M b := fun b hb => cE_off rfl rfl rfl (up2_off hb)
theorem x_putI {a ci k idx n0 : Nat} {x : Int32} (hd : DC mt.2.1 pc (.putfield idx) 3 n) (hl : lnk mt.1.cls idx ci k) (hf : (decide (ci < 12) && decide (k < NC ci) && !rfC ci k && decide (tyC ci k = .int)) = true) (hfin : fnl mt idx ci k) (ho : isK M a ci n0) (h : WA X d kc ns mt n L S (sI M a k x) Q) : WA X d kc ns mt pc L (vI x :: vR a :: S) M Q := by
  simp only [Bool.and_eq_true, decide_eq_true_eq, Bool.not_eq_true'] at hf
  exact x_put (M' := sI M a k x) hd hl hf.1.1.1 hf.1.1.2 ho hfin (by rw [hf.2]; exact (fitI x).1) (by rw [hf.2]; exact (fitI x).2) rfl sI_off (fv_setI hf.1.2) h
theorem x_putZ {a ci k idx n0 : Nat} {x : Int32} (hd : DC mt.2.1 pc (.putfield idx) 3 n) (hl : lnk mt.1.cls idx ci k) (hf : (decide (ci < 12) && decide (k < NC ci) && !rfC ci k && decide (tyC ci k = .boolean)) = true) (hfin : fnl mt idx ci k) (ho : isK M a ci n0) (hb : isB x) (h : WA X d kc ns mt n L S (sI M a k x) Q) : WA X d kc ns mt pc L (vI x :: vR a :: S) M Q := by
  simp only [Bool.and_eq_true, decide_eq_true_eq, Bool.not_eq_true'] at hf
  exact x_put (M' := sI M a k x) hd hl hf.1.1.1 hf.1.1.2 ho hfin (by rw [hf.2]; exact (fitZ hb).1) (by rw [hf.2]; exact (fitZ hb).2) rfl sI_off (fv_setI hf.1.2) h
theorem x_putR {a ci k idx n0 v : Nat} (hd : DC mt.2.1 pc (.putfield idx) 3 n) (hl : lnk mt.1.cls idx ci k) (hf : (decide (ci < 12) && decide (k < NC ci) && rfC ci k) = true) (ht : (match tyC ci k with | .array _ => true | .object _ => true | _ => false) = true) (hfin : fnl mt idx ci k) (ho : isK M a ci n0) (h : WA X d kc ns mt n L S (sR M a k v) Q) : WA X d kc ns mt pc L (vR v :: vR a :: S) M Q := by
  simp only [Bool.and_eq_true, decide_eq_true_eq] at hf
  exact x_put (M' := sR M a k v) hd hl hf.1.1 hf.1.2 ho hfin (fitR ht _ _).1 (fitR ht _ _).2 rfl sR_off (fv_setR hf.2) h
theorem ws_arr {H : Heap} {a k n0 : Nat} {x : va_E} (hR : Rl X M H) (ho : isK M a k n0) (hk : k ≠ 99) (hc : cE X.2.2.2 X.2.2.1 M a = x) : 0 < a ∧ (wsM X.2.2.2 X.2.2.1 M)[a - 1]? = some (X.2.2.2 + a, x) := by
  have h0 := isK_pos hR ho hk
  exact ⟨h0, by rw [ws_at h0 (isK_lt ho), hc]⟩
theorem x_iald {a n0 : Nat} {i : Int32} (hd : DC mt.2.1 pc .iaload 1 n) (ho : isK M a 14 n0) (hi : vp_in i n0) (h : WA X d kc ns mt n L (vI (mI M a (ix i)) :: S) M Q) : WA X d kc ns mt pc L (vI i :: vR a :: S) M Q := by
  obtain ⟨hd, rfl⟩ := hd
  intro p e R s m args below meth c H locs cells slots ls E hL hR
  obtain ⟨h0, hw⟩ := ws_arr hR ho (by decide) (cE_int ho (by decide) (by decide))
  rw [List.map_cons, List.map_cons, show cv X.2.2.2 (vR a) = .ref (X.2.2.2 + a) from rO_pos h0]
  exact va_iald E.1.1 E.1.2.1 E.2.2.2.2.2.1.2.1 hR.2.2 (a - 1) 2 hw rfl hi hd (h p e R s m args below meth c H locs cells slots ls E hL hR)
theorem x_bald {a n0 : Nat} {i : Int32} (hd : DC mt.2.1 pc .baload 1 n) (ho : isK M a 12 n0) (hi : vp_in i n0) (h : WA X d kc ns mt n L (vI (mI M a (ix i)) :: S) M Q) : WA X d kc ns mt pc L (vI i :: vR a :: S) M Q := by
  obtain ⟨hd, rfl⟩ := hd
  intro p e R s m args below meth c H locs cells slots ls E hL hR
  obtain ⟨h0, hw⟩ := ws_arr hR ho (by decide) (cE_int ho (by decide) (by decide))
  rw [List.map_cons, List.map_cons, show cv X.2.2.2 (vR a) = .ref (X.2.2.2 + a) from rO_pos h0]
  exact va_bald E.1.1 E.1.2.1 E.2.2.2.2.2.1.2.1 hR.2.2 (a - 1) 0 hw rfl hi hd (h p e R s m args below meth c H locs cells slots ls E hL hR)
theorem x_zald {a n0 : Nat} {i : Int32} (hd : DC mt.2.1 pc .baload 1 n) (ho : isK M a 15 n0) (hi : vp_in i n0) (h : WA X d kc ns mt n L (vI (mI M a (ix i)) :: S) M Q) : WA X d kc ns mt pc L (vI i :: vR a :: S) M Q := by
  obtain ⟨hd, rfl⟩ := hd
  intro p e R s m args below meth c H locs cells slots ls E hL hR
  obtain ⟨h0, hw⟩ := ws_arr hR ho (by decide) (cE_int ho (by decide) (by decide))
  rw [List.map_cons, List.map_cons, show cv X.2.2.2 (vR a) = .ref (X.2.2.2 + a) from rO_pos h0]
  exact va_zald E.1.1 E.1.2.1 E.2.2.2.2.2.1.2.1 hR.2.2 (a - 1) 3 hw rfl hi hd (h p e R s m args below meth c H locs cells slots ls E hL hR)
theorem x_cald {a n0 : Nat} {i : Int32} (hd : DC mt.2.1 pc .caload 1 n) (ho : isK M a 13 n0) (hi : vp_in i n0) (h : WA X d kc ns mt n L (vI (mI M a (ix i)) :: S) M Q) : WA X d kc ns mt pc L (vI i :: vR a :: S) M Q := by
  obtain ⟨hd, rfl⟩ := hd
  intro p e R s m args below meth c H locs cells slots ls E hL hR
  obtain ⟨h0, hw⟩ := ws_arr hR ho (by decide) (cE_int ho (by decide) (by decide))
  rw [List.map_cons, List.map_cons, show cv X.2.2.2 (vR a) = .ref (X.2.2.2 + a) from rO_pos h0]
  exact va_cald E.1.1 E.1.2.1 E.2.2.2.2.2.1.2.1 hR.2.2 (a - 1) 1 hw rfl hi hd (h p e R s m args below meth c H locs cells slots ls E hL hR)
theorem x_lald {a n0 : Nat} {i : Int32} (hd : DC mt.2.1 pc .laload 1 n) (ho : isK M a 20 n0) (hi : vp_in i n0) (h : WA X d kc ns mt n L (vJ (mJ M a (ix i)) :: S) M Q) : WA X d kc ns mt pc L (vI i :: vR a :: S) M Q := by
  obtain ⟨hd, rfl⟩ := hd
  intro p e R s m args below meth c H locs cells slots ls E hL hR
  obtain ⟨h0, hw⟩ := ws_arr hR ho (by decide) (cE_long ho)
  rw [List.map_cons, List.map_cons, show cv X.2.2.2 (vR a) = .ref (X.2.2.2 + a) from rO_pos h0]
  exact va_lald E.1.1 E.1.2.1 E.2.2.2.2.2.1.2.1 hR.2.2 (a - 1) 8 hw rfl hi hd (h p e R s m args below meth c H locs cells slots ls E hL hR)
theorem x_aald16 {a n0 : Nat} {i : Int32} (hd : DC mt.2.1 pc .aaload 1 n) (ho : isK M a 16 n0) (hi : vp_in i n0) (h : WA X d kc ns mt n L (vR (mR M a (ix i)) :: S) M Q) : WA X d kc ns mt pc L (vI i :: vR a :: S) M Q := by
  obtain ⟨hd, rfl⟩ := hd
  intro p e R s m args below meth c H locs cells slots ls E hL hR
  obtain ⟨h0, hw⟩ := ws_arr hR ho (by decide) (cE_ref ho (by decide) (by decide))
  rw [List.map_cons, List.map_cons, show cv X.2.2.2 (vR a) = .ref (X.2.2.2 + a) from rO_pos h0]
  exact va_aldq E.1.1 E.1.2.1 E.2.2.2.2.2.1.2.1 hR.2.2 (a - 1) 4 hw rfl hi hd (h p e R s m args below meth c H locs cells slots ls E hL hR)
theorem x_aald17 {a n0 : Nat} {i : Int32} (hd : DC mt.2.1 pc .aaload 1 n) (ho : isK M a 17 n0) (hi : vp_in i n0) (h : WA X d kc ns mt n L (vR (mR M a (ix i)) :: S) M Q) : WA X d kc ns mt pc L (vI i :: vR a :: S) M Q := by
  obtain ⟨hd, rfl⟩ := hd
  intro p e R s m args below meth c H locs cells slots ls E hL hR
  obtain ⟨h0, hw⟩ := ws_arr hR ho (by decide) (cE_ref ho (by decide) (by decide))
  rw [List.map_cons, List.map_cons, show cv X.2.2.2 (vR a) = .ref (X.2.2.2 + a) from rO_pos h0]
  exact va_aldq E.1.1 E.1.2.1 E.2.2.2.2.2.1.2.1 hR.2.2 (a - 1) 5 hw rfl hi hd (h p e R s m args below meth c H locs cells slots ls E hL hR)
theorem x_aald18 {a n0 : Nat} {i : Int32} (hd : DC mt.2.1 pc .aaload 1 n) (ho : isK M a 18 n0) (hi : vp_in i n0) (h : WA X d kc ns mt n L (vR (mR M a (ix i)) :: S) M Q) : WA X d kc ns mt pc L (vI i :: vR a :: S) M Q := by
  obtain ⟨hd, rfl⟩ := hd
  intro p e R s m args below meth c H locs cells slots ls E hL hR
  obtain ⟨h0, hw⟩ := ws_arr hR ho (by decide) (cE_ref ho (by decide) (by decide))
  rw [List.map_cons, List.map_cons, show cv X.2.2.2 (vR a) = .ref (X.2.2.2 + a) from rO_pos h0]
  exact va_aldq E.1.1 E.1.2.1 E.2.2.2.2.2.1.2.1 hR.2.2 (a - 1) 6 hw rfl hi hd (h p e R s m args below meth c H locs cells slots ls E hL hR)
theorem x_aald19 {a n0 : Nat} {i : Int32} (hd : DC mt.2.1 pc .aaload 1 n) (ho : isK M a 19 n0) (hi : vp_in i n0) (h : WA X d kc ns mt n L (vR (mR M a (ix i)) :: S) M Q) : WA X d kc ns mt pc L (vI i :: vR a :: S) M Q := by
  obtain ⟨hd, rfl⟩ := hd
  intro p e R s m args below meth c H locs cells slots ls E hL hR
  obtain ⟨h0, hw⟩ := ws_arr hR ho (by decide) (cE_ref ho (by decide) (by decide))
  rw [List.map_cons, List.map_cons, show cv X.2.2.2 (vR a) = .ref (X.2.2.2 + a) from rO_pos h0]
  exact va_aldq E.1.1 E.1.2.1 E.2.2.2.2.2.1.2.1 hR.2.2 (a - 1) 7 hw rfl hi hd (h p e R s m args below meth c H locs cells slots ls E hL hR)
theorem x_alen {a k n0 : Nat} (hd : DC mt.2.1 pc .arraylength 1 n) (ho : isK M a k n0) (hk : (decide (12 ≤ k) && decide (k < 21)) = true) (h : WA X d kc ns mt n L (vI (nI n0) :: S) M Q) : WA X d kc ns mt pc L (vR a :: S) M Q := by
  obtain ⟨hd, rfl⟩ := hd
  simp only [Bool.and_eq_true, decide_eq_true_eq] at hk
  intro p e R s m args below meth c H locs cells slots ls E hL hR
  have hx : ∃ x : vp_A, x.1 = n0 ∧ cE X.2.2.2 X.2.2.1 M a = .inl (X.2.2.1 k, x) := by
    by_cases h1 : k < 16
    · exact ⟨_, rfl, cE_int ho hk.1 h1⟩
    · by_cases h2 : k < 20
      · exact ⟨_, rfl, cE_ref ho (by omega) h2⟩
      · obtain rfl : k = 20 := by omega
        exact ⟨_, rfl, cE_long ho⟩
  obtain ⟨x, rfl, hx⟩ := hx
  obtain ⟨h0, hw⟩ := ws_arr hR ho (by omega) hx
  rw [List.map_cons, show cv X.2.2.2 (vR a) = .ref (X.2.2.2 + a) from rO_pos h0]
  have ht : ∃ ty, (tysX X)[k - 12]? = some (X.2.2.1 k, ty) := by
    rcases (show k = 12 ∨ k = 13 ∨ k = 14 ∨ k = 15 ∨ k = 16 ∨ k = 17 ∨ k = 18 ∨ k = 19 ∨ k = 20 by omega) with rfl | rfl | rfl | rfl | rfl | rfl | rfl | rfl | rfl <;> exact ⟨_, rfl⟩
  obtain ⟨ty, ht⟩ := ht
  exact va_alen E.1.1 E.1.2.1 E.2.2.2.2.2.1.2.1 hR.2.2 (a - 1) (k - 12) hw ht rfl hd (h p e R s m args below meth c H locs cells slots ls E hL hR)
/-- the memory behind a store into an array -/
theorem Rl.ast {H H1 : Heap} {a : Nat} {M' : Mem} {e : va_E} (hR : Rl X M H) (hz1 : H1.size = H.size) (h0 : 0 < a) (hS : M'.2.2.2 = M.2.2.2) (hoff : ∀ b, b ≠ a → cE X.2.2.2 X.2.2.1 M' b = cE X.2.2.2 X.2.2.1 M b) (hc : cE X.2.2.2 X.2.2.1 M' a = e) {e0 : va_E} (hw : (wsM X.2.2.2 X.2.2.1 M)[a - 1]? = some (X.2.2.2 + a, e0)) (hat : va_at X.2.1 cls (X.2.2.2 + a, e) H1) (oq : ∀ q : Nat, q ≠ X.2.2.2 + a → H1[q]? = H[q]?) : Rl X M' H1 := by
  refine ⟨by rw [hz1, hR.1, hS], by rw [hS]; exact hR.2.1, ?_⟩
  have hP := hR.2.2.set ws_D hw hat oq
  rw [ws_set h0 hS hoff hc] at hP
  exact hP
theorem x_iast {a n0 : Nat} {i x : Int32} (hd : DC mt.2.1 pc .iastore 1 n) (ho : isK M a 14 n0) (hi : vp_in i n0) (h : WA X d kc ns mt n L S (sI M a (ix i) x) Q) : WA X d kc ns mt pc L (vI x :: vI i :: vR a :: S) M Q := by
  obtain ⟨hd, rfl⟩ := hd
  intro p e R s m args below meth c H locs cells slots ls E hL hR
  obtain ⟨h0, hw⟩ := ws_arr hR ho (by decide) (cE_int ho (by decide) (by decide))
  rw [List.map_cons, List.map_cons, List.map_cons, show cv X.2.2.2 (vR a) = .ref (X.2.2.2 + a) from rO_pos h0]
  refine W.iast E.1.1 E.1.2.1 (hR.2.2 (a - 1) _ hw) ((E.2.2.2.2.2.1.2.1.2 2 _ rfl).1 n0 (fun j => .int (M.1 a j))) (fun q => by cases q) (by show ¬ (i < 0 ∨ (arrV _ _ _).slots.size ≤ _); rw [arrV_size]; exact hi) rfl rfl hd fun H1 g1 z oq => ?_
  refine h p e R s m args below meth c H1 _ cells slots ls (E.on (E.2.2.2.2.2.2.put z oq (show X.2.2.2 < X.2.2.2 + a by omega))) hL (Rl.ast hR z h0 rfl sI_off (cE_int (M := sI M a (ix i) x) ho (by decide) (by decide)) hw ?_ oq)
  show H1[X.2.2.2 + a]? = some (vp_cell _ _)
  rw [g1, vp_cell_i, vp_cell_i, arrV_store]
  congr 2
  funext q
  simp only [sI, up2_on]
  by_cases hq : q = ix i
  · simp [updV, hq, ix, vp_nar]
    try rfl
  · simp [updV, hq, show ¬ q = i.toNatClampNeg from hq]
theorem x_bast {a n0 : Nat} {i x : Int32} (hd : DC mt.2.1 pc .bastore 1 n) (ho : isK M a 12 n0) (hi : vp_in i n0) (h : WA X d kc ns mt n L S (sI M a (ix i) (vp_nar .byte x)) Q) : WA X d kc ns mt pc L (vI x :: vI i :: vR a :: S) M Q := by
  obtain ⟨hd, rfl⟩ := hd
  intro p e R s m args below meth c H locs cells slots ls E hL hR
  obtain ⟨h0, hw⟩ := ws_arr hR ho (by decide) (cE_int ho (by decide) (by decide))
  rw [List.map_cons, List.map_cons, List.map_cons, show cv X.2.2.2 (vR a) = .ref (X.2.2.2 + a) from rO_pos h0]
  refine W.bast E.1.1 E.1.2.1 (hR.2.2 (a - 1) _ hw) ((E.2.2.2.2.2.1.2.1.2 0 _ rfl).1 n0 (fun j => .int (M.1 a j))) (fun q => by cases q) (by show ¬ (i < 0 ∨ (arrV _ _ _).slots.size ≤ _); rw [arrV_size]; exact hi) rfl rfl hd fun H1 g1 z oq => ?_
  refine h p e R s m args below meth c H1 _ cells slots ls (E.on (E.2.2.2.2.2.2.put z oq (show X.2.2.2 < X.2.2.2 + a by omega))) hL (Rl.ast hR z h0 rfl sI_off (cE_int (M := sI M a (ix i) (vp_nar .byte x)) ho (by decide) (by decide)) hw ?_ oq)
  show H1[X.2.2.2 + a]? = some (vp_cell _ _)
  rw [g1, vp_cell_i, vp_cell_i, arrV_store]
  congr 2
  funext q
  simp only [sI, up2_on]
  by_cases hq : q = ix i
  · simp [updV, hq, ix, vp_nar]
    try rfl
  · simp [updV, hq, show ¬ q = i.toNatClampNeg from hq]
theorem x_zast {a n0 : Nat} {i x : Int32} (hd : DC mt.2.1 pc .bastore 1 n) (ho : isK M a 15 n0) (hi : vp_in i n0) (h : WA X d kc ns mt n L S (sI M a (ix i) (vp_nar .boolean x)) Q) : WA X d kc ns mt pc L (vI x :: vI i :: vR a :: S) M Q := by
  obtain ⟨hd, rfl⟩ := hd
  intro p e R s m args below meth c H locs cells slots ls E hL hR
  obtain ⟨h0, hw⟩ := ws_arr hR ho (by decide) (cE_int ho (by decide) (by decide))
  rw [List.map_cons, List.map_cons, List.map_cons, show cv X.2.2.2 (vR a) = .ref (X.2.2.2 + a) from rO_pos h0]
  refine W.zast E.1.1 E.1.2.1 (hR.2.2 (a - 1) _ hw) ((E.2.2.2.2.2.1.2.1.2 3 _ rfl).1 n0 (fun j => .int (M.1 a j))) (fun q => by cases q) (by show ¬ (i < 0 ∨ (arrV _ _ _).slots.size ≤ _); rw [arrV_size]; exact hi) rfl rfl hd fun H1 g1 z oq => ?_
  refine h p e R s m args below meth c H1 _ cells slots ls (E.on (E.2.2.2.2.2.2.put z oq (show X.2.2.2 < X.2.2.2 + a by omega))) hL (Rl.ast hR z h0 rfl sI_off (cE_int (M := sI M a (ix i) (vp_nar .boolean x)) ho (by decide) (by decide)) hw ?_ oq)
  show H1[X.2.2.2 + a]? = some (vp_cell _ _)
  rw [g1, vp_cell_i, vp_cell_i, arrV_store]
  congr 2
  funext q
  simp only [sI, up2_on]
  by_cases hq : q = ix i
  · simp [updV, hq, ix, vp_nar]
    try rfl
  · simp [updV, hq, show ¬ q = i.toNatClampNeg from hq]
theorem x_cast {a n0 : Nat} {i x : Int32} (hd : DC mt.2.1 pc .castore 1 n) (ho : isK M a 13 n0) (hi : vp_in i n0) (h : WA X d kc ns mt n L S (sI M a (ix i) (vp_nar .char x)) Q) : WA X d kc ns mt pc L (vI x :: vI i :: vR a :: S) M Q := by
  obtain ⟨hd, rfl⟩ := hd
  intro p e R s m args below meth c H locs cells slots ls E hL hR
  obtain ⟨h0, hw⟩ := ws_arr hR ho (by decide) (cE_int ho (by decide) (by decide))
  rw [List.map_cons, List.map_cons, List.map_cons, show cv X.2.2.2 (vR a) = .ref (X.2.2.2 + a) from rO_pos h0]
  refine W.cast E.1.1 E.1.2.1 (hR.2.2 (a - 1) _ hw) ((E.2.2.2.2.2.1.2.1.2 1 _ rfl).1 n0 (fun j => .int (M.1 a j))) (fun q => by cases q) (by show ¬ (i < 0 ∨ (arrV _ _ _).slots.size ≤ _); rw [arrV_size]; exact hi) rfl rfl hd fun H1 g1 z oq => ?_
  refine h p e R s m args below meth c H1 _ cells slots ls (E.on (E.2.2.2.2.2.2.put z oq (show X.2.2.2 < X.2.2.2 + a by omega))) hL (Rl.ast hR z h0 rfl sI_off (cE_int (M := sI M a (ix i) (vp_nar .char x)) ho (by decide) (by decide)) hw ?_ oq)
  show H1[X.2.2.2 + a]? = some (vp_cell _ _)
  rw [g1, vp_cell_i, vp_cell_i, arrV_store]
  congr 2
  funext q
  simp only [sI, up2_on]
  by_cases hq : q = ix i
  · simp [updV, hq, ix, vp_nar]
    try rfl
  · simp [updV, hq, show ¬ q = i.toNatClampNeg from hq]
theorem x_last {a n0 : Nat} {i : Int32} {x : Int64} (hd : DC mt.2.1 pc .lastore 1 n) (ho : isK M a 20 n0) (hi : vp_in i n0) (h : WA X d kc ns mt n L S (sJ M a (ix i) x) Q) : WA X d kc ns mt pc L (vJ x :: vI i :: vR a :: S) M Q := by
  obtain ⟨hd, rfl⟩ := hd
  intro p e R s m args below meth c H locs cells slots ls E hL hR
  obtain ⟨h0, hw⟩ := ws_arr hR ho (by decide) (cE_long ho)
  rw [List.map_cons, List.map_cons, List.map_cons, show cv X.2.2.2 (vR a) = .ref (X.2.2.2 + a) from rO_pos h0]
  refine W.last E.1.1 E.1.2.1 (hR.2.2 (a - 1) _ hw) ((E.2.2.2.2.2.1.2.1.2 8 _ rfl).1 n0 (fun j => .long (M.2.2.1 a j))) (fun q => by cases q) (by show ¬ (i < 0 ∨ (arrV _ _ _).slots.size ≤ _); rw [arrV_size]; exact hi) rfl rfl hd fun H1 g1 z oq => ?_
  refine h p e R s m args below meth c H1 _ cells slots ls (E.on (E.2.2.2.2.2.2.put z oq (show X.2.2.2 < X.2.2.2 + a by omega))) hL (Rl.ast hR z h0 rfl sJ_off (cE_long (M := sJ M a (ix i) x) ho) hw ?_ oq)
  show H1[X.2.2.2 + a]? = some (vp_cell _ _)
  rw [g1, vp_cell_l, vp_cell_l, arrV_store]
  congr 2
  funext q
  simp only [sJ, up2_on]
  by_cases hq : q = ix i
  · simp [updV, hq, ix]
  · simp [updV, hq, show ¬ q = i.toNatClampNeg from hq]
theorem x_aast16 {a n0 v n1 : Nat} {i : Int32} (hd : DC mt.2.1 pc .aastore 1 n) (ho : isK M a 16 n0) (hv : isK M v 0 n1) (hi : vp_in i n0) (h : WA X d kc ns mt n L S (sR M a (ix i) v) Q) : WA X d kc ns mt pc L (vR v :: vI i :: vR a :: S) M Q := by
  obtain ⟨hd, rfl⟩ := hd
  intro p e R s m args below meth c H locs cells slots ls E hL hR
  obtain ⟨h0, hw⟩ := ws_arr hR ho (by decide) (cE_ref ho (by decide) (by decide))
  obtain ⟨h1, hw1⟩ := ws_arr hR hv (by decide) (cE_obj hv (by decide))
  rw [List.map_cons, List.map_cons, List.map_cons, show cv X.2.2.2 (vR a) = .ref (X.2.2.2 + a) from rO_pos h0, show cv X.2.2.2 (vR v) = .ref (X.2.2.2 + v) from rO_pos h1]
  have hK := E.2.2.2.2.2.1.2.1
  have hlt : i.toNatClampNeg < n0 := Nat.not_le.mp fun q => hi (Or.inr q)
  have hi0 : ¬ i < 0 := fun q => hi (Or.inl q)
  obtain ⟨r', hr', cellV, g1, g2, g3, -⟩ := hR.2.2 (v - 1) _ hw1
  have hcls := (hK.1 0 _ (cls_at (by decide))).2
  obtain ⟨kA, comp, k1, k2, k3, -⟩ := (hK.2 4 _ rfl).2
  have hcomp : comp = X.2.1.1 0 := Option.some.inj (k3.symm.trans hcls.1)
  subst hcomp
  obtain ⟨kC, hkC, -⟩ := hcls.2
  refine W.aast E.1.1 E.1.2.1 (hR.2.2 (a - 1) _ hw) (fun q h => by cases h) (fun h => by cases h) k1 k2 rfl hkC ⟨hi0, by show _ < (arrV _ _ _).slots.size; rw [arrV_size]; exact hlt⟩ g1 (fun q h => by rw [g3] at h; cases h) (by rw [g2]; exact hkC) (by rw [g2]; exact va_assign hcls) rfl rfl hd fun H1 e1 z oq => ?_
  refine h p e R s m args below meth c H1 _ cells slots ls (E.on (E.2.2.2.2.2.2.put z oq (show X.2.2.2 < X.2.2.2 + a by omega))) hL (Rl.ast hR z h0 rfl sR_off (cE_ref (M := sR M a (ix i) v) ho (by decide) (by decide)) hw ?_ oq)
  show H1[X.2.2.2 + a]? = some (vp_cell _ _)
  rw [e1, vp_cell_q, vp_cell_q, arrV_store]
  congr 2
  funext q
  simp only [sR, up2_on]
  by_cases hq : q = ix i
  · simp [updV, hq, ix, rO_pos h1]
  · simp [updV, hq, show ¬ q = i.toNatClampNeg from hq]
theorem x_aast17 {a n0 v n1 : Nat} {i : Int32} (hd : DC mt.2.1 pc .aastore 1 n) (ho : isK M a 17 n0) (hv : isK M v 1 n1) (hi : vp_in i n0) (h : WA X d kc ns mt n L S (sR M a (ix i) v) Q) : WA X d kc ns mt pc L (vR v :: vI i :: vR a :: S) M Q := by
  obtain ⟨hd, rfl⟩ := hd
  intro p e R s m args below meth c H locs cells slots ls E hL hR
  obtain ⟨h0, hw⟩ := ws_arr hR ho (by decide) (cE_ref ho (by decide) (by decide))
  obtain ⟨h1, hw1⟩ := ws_arr hR hv (by decide) (cE_obj hv (by decide))
  rw [List.map_cons, List.map_cons, List.map_cons, show cv X.2.2.2 (vR a) = .ref (X.2.2.2 + a) from rO_pos h0, show cv X.2.2.2 (vR v) = .ref (X.2.2.2 + v) from rO_pos h1]
  have hK := E.2.2.2.2.2.1.2.1
  have hlt : i.toNatClampNeg < n0 := Nat.not_le.mp fun q => hi (Or.inr q)
  have hi0 : ¬ i < 0 := fun q => hi (Or.inl q)
  obtain ⟨r', hr', cellV, g1, g2, g3, -⟩ := hR.2.2 (v - 1) _ hw1
  have hcls := (hK.1 1 _ (cls_at (by decide))).2
  obtain ⟨kA, comp, k1, k2, k3, -⟩ := (hK.2 5 _ rfl).2
  have hcomp : comp = X.2.1.1 1 := Option.some.inj (k3.symm.trans hcls.1)
  subst hcomp
  obtain ⟨kC, hkC, -⟩ := hcls.2
  refine W.aast E.1.1 E.1.2.1 (hR.2.2 (a - 1) _ hw) (fun q h => by cases h) (fun h => by cases h) k1 k2 rfl hkC ⟨hi0, by show _ < (arrV _ _ _).slots.size; rw [arrV_size]; exact hlt⟩ g1 (fun q h => by rw [g3] at h; cases h) (by rw [g2]; exact hkC) (by rw [g2]; exact va_assign hcls) rfl rfl hd fun H1 e1 z oq => ?_
  refine h p e R s m args below meth c H1 _ cells slots ls (E.on (E.2.2.2.2.2.2.put z oq (show X.2.2.2 < X.2.2.2 + a by omega))) hL (Rl.ast hR z h0 rfl sR_off (cE_ref (M := sR M a (ix i) v) ho (by decide) (by decide)) hw ?_ oq)
  show H1[X.2.2.2 + a]? = some (vp_cell _ _)
  rw [e1, vp_cell_q, vp_cell_q, arrV_store]
  congr 2
  funext q
  simp only [sR, up2_on]
  by_cases hq : q = ix i
  · simp [updV, hq, ix, rO_pos h1]
  · simp [updV, hq, show ¬ q = i.toNatClampNeg from hq]
theorem x_aast18 {a n0 v n1 : Nat} {i : Int32} (hd : DC mt.2.1 pc .aastore 1 n) (ho : isK M a 18 n0) (hv : isK M v 3 n1) (hi : vp_in i n0) (h : WA X d kc ns mt n L S (sR M a (ix i) v) Q) : WA X d kc ns mt pc L (vR v :: vI i :: vR a :: S) M Q := by
  obtain ⟨hd, rfl⟩ := hd
  intro p e R s m args below meth c H locs cells slots ls E hL hR
  obtain ⟨h0, hw⟩ := ws_arr hR ho (by decide) (cE_ref ho (by decide) (by decide))
  obtain ⟨h1, hw1⟩ := ws_arr hR hv (by decide) (cE_obj hv (by decide))
  rw [List.map_cons, List.map_cons, List.map_cons, show cv X.2.2.2 (vR a) = .ref (X.2.2.2 + a) from rO_pos h0, show cv X.2.2.2 (vR v) = .ref (X.2.2.2 + v) from rO_pos h1]
  have hK := E.2.2.2.2.2.1.2.1
  have hlt : i.toNatClampNeg < n0 := Nat.not_le.mp fun q => hi (Or.inr q)
  have hi0 : ¬ i < 0 := fun q => hi (Or.inl q)
  obtain ⟨r', hr', cellV, g1, g2, g3, -⟩ := hR.2.2 (v - 1) _ hw1
  have hcls := (hK.1 3 _ (cls_at (by decide))).2
  obtain ⟨kA, comp, k1, k2, k3, -⟩ := (hK.2 6 _ rfl).2
  have hcomp : comp = X.2.1.1 3 := Option.some.inj (k3.symm.trans hcls.1)
  subst hcomp
  obtain ⟨kC, hkC, -⟩ := hcls.2
  refine W.aast E.1.1 E.1.2.1 (hR.2.2 (a - 1) _ hw) (fun q h => by cases h) (fun h => by cases h) k1 k2 rfl hkC ⟨hi0, by show _ < (arrV _ _ _).slots.size; rw [arrV_size]; exact hlt⟩ g1 (fun q h => by rw [g3] at h; cases h) (by rw [g2]; exact hkC) (by rw [g2]; exact va_assign hcls) rfl rfl hd fun H1 e1 z oq => ?_
  refine h p e R s m args below meth c H1 _ cells slots ls (E.on (E.2.2.2.2.2.2.put z oq (show X.2.2.2 < X.2.2.2 + a by omega))) hL (Rl.ast hR z h0 rfl sR_off (cE_ref (M := sR M a (ix i) v) ho (by decide) (by decide)) hw ?_ oq)
  show H1[X.2.2.2 + a]? = some (vp_cell _ _)
  rw [e1, vp_cell_q, vp_cell_q, arrV_store]
  congr 2
  funext q
  simp only [sR, up2_on]
  by_cases hq : q = ix i
  · simp [updV, hq, ix, rO_pos h1]
  · simp [updV, hq, show ¬ q = i.toNatClampNeg from hq]
theorem x_aast19 {a n0 v n1 : Nat} {i : Int32} (hd : DC mt.2.1 pc .aastore 1 n) (ho : isK M a 19 n0) (hv : isK M v 6 n1) (hi : vp_in i n0) (h : WA X d kc ns mt n L S (sR M a (ix i) v) Q) : WA X d kc ns mt pc L (vR v :: vI i :: vR a :: S) M Q := by
  obtain ⟨hd, rfl⟩ := hd
  intro p e R s m args below meth c H locs cells slots ls E hL hR
  obtain ⟨h0, hw⟩ := ws_arr hR ho (by decide) (cE_ref ho (by decide) (by decide))
  obtain ⟨h1, hw1⟩ := ws_arr hR hv (by decide) (cE_obj hv (by decide))
  rw [List.map_cons, List.map_cons, List.map_cons, show cv X.2.2.2 (vR a) = .ref (X.2.2.2 + a) from rO_pos h0, show cv X.2.2.2 (vR v) = .ref (X.2.2.2 + v) from rO_pos h1]
  have hK := E.2.2.2.2.2.1.2.1
  have hlt : i.toNatClampNeg < n0 := Nat.not_le.mp fun q => hi (Or.inr q)
  have hi0 : ¬ i < 0 := fun q => hi (Or.inl q)
  obtain ⟨r', hr', cellV, g1, g2, g3, -⟩ := hR.2.2 (v - 1) _ hw1
  have hcls := (hK.1 6 _ (cls_at (by decide))).2
  obtain ⟨kA, comp, k1, k2, k3, -⟩ := (hK.2 7 _ rfl).2
  have hcomp : comp = X.2.1.1 6 := Option.some.inj (k3.symm.trans hcls.1)
  subst hcomp
  obtain ⟨kC, hkC, -⟩ := hcls.2
  refine W.aast E.1.1 E.1.2.1 (hR.2.2 (a - 1) _ hw) (fun q h => by cases h) (fun h => by cases h) k1 k2 rfl hkC ⟨hi0, by show _ < (arrV _ _ _).slots.size; rw [arrV_size]; exact hlt⟩ g1 (fun q h => by rw [g3] at h; cases h) (by rw [g2]; exact hkC) (by rw [g2]; exact va_assign hcls) rfl rfl hd fun H1 e1 z oq => ?_
  refine h p e R s m args below meth c H1 _ cells slots ls (E.on (E.2.2.2.2.2.2.put z oq (show X.2.2.2 < X.2.2.2 + a by omega))) hL (Rl.ast hR z h0 rfl sR_off (cE_ref (M := sR M a (ix i) v) ho (by decide) (by decide)) hw ?_ oq)
  show H1[X.2.2.2 + a]? = some (vp_cell _ _)
  rw [e1, vp_cell_q, vp_cell_q, arrV_store]
  congr 2
  funext q
  simp only [sR, up2_on]
  by_cases hq : q = ix i
  · simp [updV, hq, ix, rO_pos h1]
  · simp [updV, hq, show ¬ q = i.toNatClampNeg from hq]
end ARR
