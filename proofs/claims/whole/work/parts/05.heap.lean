/-! ROWS on the heap -/
theorem okw_warm {w : Cond} (h : okw w = true) {s U : State} (hW : s.WarmedH U.vm) (hs : ∀ a : Array Value, w.before a s = true) (a : Array Value) : w.before a U = true := by
  cases w <;> first
    | exact word_at hW (good_of_word h) (hs #[])
    | exact va_Nw.use rfl (va_Nw.warmF hW (hs #[]))
    | exact va_Nw.use rfl (va_Nw.warmM hW (hs #[]))
    | exact va_Nw.use rfl (va_Nw.warmC hW (hs #[]))
    | exact va_Nw.use rfl (va_Nw.warmD hW (hs #[]))
    | (rename_i ty; cases ty <;> first | exact va_AO.use (va_AO.moved hW.alike (hs #[])) | exact word_at hW (good_of_word h) (hs #[]))
theorem TB.warm {s U : State} (h : TB s) (hW : s.WarmedH U.vm) : TB U := fun w hw hk a => okw_warm hk hW (h w hw hk) a
theorem TB.of {a0 : Array Value} {s : State} (h : ∀ w ∈ lw_tbl, w.before a0 s = true) : TB s := by
  intro w hw hk a
  have h0 := h w hw
  revert hk h0
  cases w <;> intro hk h0 <;> first
    | exact word_at (State.WarmedH.refl s) (good_of_word hk) h0
    | exact va_Nw.use rfl (va_Nw.of rfl h0)
    | (rename_i ty; cases ty <;> first | exact va_AO.use (va_AO.of h0) | exact word_at (State.WarmedH.refl s) (good_of_word hk) h0)
theorem KX.at {X : Cx} {s U : State} {H : Heap} {locs : List Loc} (h : KX X s) (hW : s.WarmedH U.vm) (hS : va_S (AX X) s.heap H locs) (hU : U.heap = H) : KX X U := by
  obtain ⟨h1, h2, h3, ⟨w, h4, h5⟩, h6, h7⟩ := h
  have hk : ∀ a : Nat, a < s.heap.size → ¬ AX X a → U.heap[a]? = s.heap[a]? := fun a q1 q2 => by rw [hU]; exact hS.2.1 a q1 q2
  exact ⟨h1.warm hW, va_K.moved hW.alike h2, by rw [hU]; exact Nat.lt_of_lt_of_le h3 hS.1, ⟨w, (h4.kept hk).moved hW.alike, (h5.kept hk).moved hW.alike⟩, (h6.kept hk).moved hW.alike, (h7.kept hk).moved hW.alike⟩
theorem PX.blind {X : Cx} {av : List AV} {M : Mem} : FrameBlind (PX X av M) := by
  intro a U g mk h
  obtain ⟨h1, h2, h3⟩ := h
  exact ⟨h1, KX.at (U := U.calling g mk a) h2 (State.WarmedH.refl U) va_S.rf rfl, h3⟩
section HEAP
variable {X : Cx} {d kc ns : Nat} {mt : MT} {pc n : Nat} {L L' : List (Option AV)} {S : List AV} {M : Mem} {Q : Option AV → Mem → Prop}
theorem EX.A {p : Program} {R : Room} {s : State} {m : MethodId} {meth : Method} {c : Code} {H : Heap} {locs : List Loc} {cells slots : Nat} (E : EX X d kc ns mt p R s m meth c H locs cells slots) : ∀ q, s.heap.size ≤ q → AX X q := fun _ h => Nat.lt_of_lt_of_le E.2.2.2.2.2.1.2.2.1 h
theorem EX.on {p : Program} {R : Room} {s : State} {m : MethodId} {meth : Method} {c : Code} {H H1 : Heap} {locs locs1 : List Loc} {cells slots : Nat} (E : EX X d kc ns mt p R s m meth c H locs cells slots) (hS : va_S (AX X) s.heap H1 locs1) : EX X d kc ns mt p R s m meth c H1 locs1 cells slots := ⟨E.1, E.2.1, E.2.2.1, E.2.2.2.1, E.2.2.2.2.1, E.2.2.2.2.2.1, hS⟩
/-- the link of a field: own class, or a nest mate's -/
def lnk (own : String) (idx ci k : Nat) : Prop := Cond.fieldLink own idx (nmC ci) (TC ci k).2.1 (TC ci k).2.2.1 ∈ lw_tbl ∨ ∃ host : String, Cond.fieldLinkNest own idx (nmC ci) (TC ci k).2.1 (TC ci k).2.2.1 host ∈ lw_tbl
theorem fv_at {b0 : Nat} {a ci k : Nat} (hk : k < NC ci) : (fv b0 M a ci)[k]? = some (if rfC ci k then va_rf (rO b0 (M.2.1 a k)) else .int (M.1 a k)) := by
  unfold fv; rw [List.getElem?_map, List.getElem?_range hk]; rfl
theorem x_get {a ci k idx n0 : Nat} {v : AV} (hd : DC mt.2.1 pc (.getfield idx) 3 n) (hl : lnk mt.1.cls idx ci k) (hc : ci < 12) (hk : k < NC ci) (ho : isK M a ci n0) (hv : (if rfC ci k then va_rf (rO X.2.2.2 (M.2.1 a k)) else .int (M.1 a k)) = cv X.2.2.2 v) (h : WA X d kc ns mt n L (v :: S) M Q) : WA X d kc ns mt pc L (vR a :: S) M Q := by
  obtain ⟨hd, rfl⟩ := hd
  intro p e R s m args below meth c H locs cells slots ls E hL hR
  have h0 := isK_pos hR ho (by omega)
  have hw : (wsM X.2.2.2 X.2.2.1 M)[a - 1]? = some (X.2.2.2 + a, .inr (ci, fv X.2.2.2 M a ci)) := by rw [ws_at h0 (isK_lt ho), cE_obj ho hc]
  have h1 := h p e R s m args below meth c H locs cells slots ls E hL hR
  have e1 : cv X.2.2.2 (vR a) = .ref (X.2.2.2 + a) := rO_pos h0
  rw [List.map_cons, e1]
  rcases hl with hl | ⟨host, hl⟩
  · exact va_get E.1.1 E.1.2.1 (wd_u E hc args) (fun _ q => q) E.1.2.2.2.2.1 E.2.2.2.2.2.1.2.1 hR.2.2 (a - 1) hw (cls_at hc) k hk (wd E hl _) (fun _ q => q) ((fv_at hk).trans (congrArg some hv)) hd h1
  · exact va_getN E.1.1 E.1.2.1 (wd_u E hc args) (fun _ q => q) E.1.2.2.2.2.1 E.2.2.2.2.2.1.2.1 hR.2.2 (a - 1) hw (cls_at hc) k hk (wd E hl _) (fun _ q => q) ((fv_at hk).trans (congrArg some hv)) hd h1
theorem x_getI {a ci k idx n0 : Nat} (hd : DC mt.2.1 pc (.getfield idx) 3 n) (hl : lnk mt.1.cls idx ci k) (hf : (decide (ci < 12) && decide (k < NC ci) && !rfC ci k) = true) (ho : isK M a ci n0) (h : WA X d kc ns mt n L (vI (mI M a k) :: S) M Q) : WA X d kc ns mt pc L (vR a :: S) M Q := by
  simp only [Bool.and_eq_true, decide_eq_true_eq, Bool.not_eq_true'] at hf
  exact x_get hd hl hf.1.1 hf.1.2 ho (by rw [hf.2]; rfl) h
theorem x_getR {a ci k idx n0 : Nat} (hd : DC mt.2.1 pc (.getfield idx) 3 n) (hl : lnk mt.1.cls idx ci k) (hf : (decide (ci < 12) && decide (k < NC ci) && rfC ci k) = true) (ho : isK M a ci n0) (h : WA X d kc ns mt n L (vR (mR M a k) :: S) M Q) : WA X d kc ns mt pc L (vR a :: S) M Q := by
  simp only [Bool.and_eq_true, decide_eq_true_eq] at hf
  exact x_get hd hl hf.1.1 hf.1.2 ho (by rw [hf.2]; rfl) h
/-- the memory behind a putfield -/
theorem Rl.put {H1 : Heap} {a ci k n0 : Nat} {M' : Mem} {v : Value} (hR0 : M.2.2.2[0]? = some (99, 0)) {H : Heap} (hz : H.size = X.2.2.2 + M.2.2.2.length) (hz1 : H1.size = H.size) (h0 : 0 < a) (ho : isK M a ci n0) (hc : ci < 12) (hS : M'.2.2.2 = M.2.2.2) (hoff : ∀ b, b ≠ a → cE X.2.2.2 X.2.2.1 M' b = cE X.2.2.2 X.2.2.1 M b) (hfv : (fv X.2.2.2 M a ci).set k v = fv X.2.2.2 M' a ci) (hP : va_P X.2.1 cls ((wsM X.2.2.2 X.2.2.1 M).set (a - 1) (X.2.2.2 + a, .inr (ci, (fv X.2.2.2 M a ci).set k v))) H1) : Rl X M' H1 := by
  refine ⟨by rw [hz1, hz, hS], by rw [hS]; exact hR0, ?_⟩
  rw [ws_set h0 hS hoff (e := .inr (ci, (fv X.2.2.2 M a ci).set k v)) (by rw [cE_obj (show isK M' a ci n0 by unfold isK; rw [hS]; exact ho) hc, hfv])] at hP
  exact hP
theorem rfl_sz {A : Nat → Prop} {H0 H : Heap} {locs : List Loc} : va_S A H0 H locs → H0.size ≤ H.size := fun h => h.1
end HEAP
section PUT
variable {X : Cx} {d kc ns : Nat} {mt : MT} {pc n : Nat} {L L' : List (Option AV)} {S : List AV} {M : Mem} {Q : Option AV → Mem → Prop}
/-- a store into a field, at the machine: the cell, the size, the rest -/
theorem x_put {a ci k idx n0 : Nat} {v : AV} {M' : Mem} (hd : DC mt.2.1 pc (.putfield idx) 3 n) (hl : lnk mt.1.cls idx ci k) (hc : ci < 12) (hk : k < NC ci) (ho : isK M a ci n0)
    (hfin : (TC ci k).2.2.2 = false ∨ ((TC ci k).2.2.2 = true ∧ mt.1.name = "<init>" ∧ mt.1.cls = nmC ci ∧ Cond.fieldLink mt.1.cls idx (nmC ci) (TC ci k).2.1 (TC ci k).2.2.1 ∈ lw_tbl))
    (hn : narrow (tyC ci k) (cv X.2.2.2 v) = cv X.2.2.2 v) (hfit : fits (tyC ci k) (cv X.2.2.2 v) = true)
    (hS : M'.2.2.2 = M.2.2.2) (hoff : ∀ b, b ≠ a → cE X.2.2.2 X.2.2.1 M' b = cE X.2.2.2 X.2.2.1 M b) (hfv : (fv X.2.2.2 M a ci).set k (cv X.2.2.2 v) = fv X.2.2.2 M' a ci)
    (h : WA X d kc ns mt n L S M' Q) : WA X d kc ns mt pc L (v :: vR a :: S) M Q := by
  obtain ⟨hd, rfl⟩ := hd
  intro p e R s m args below meth c H locs cells slots ls E hL hR
  have h0 := isK_pos hR ho (by omega)
  have hw : (wsM X.2.2.2 X.2.2.1 M)[a - 1]? = some (X.2.2.2 + a, .inr (ci, fv X.2.2.2 M a ci)) := by rw [ws_at h0 (isK_lt ho), cE_obj ho hc]
  have e1 : cv X.2.2.2 (vR a) = .ref (X.2.2.2 + a) := rO_pos h0
  rw [List.map_cons, List.map_cons, e1]
  have hK := E.2.2.2.2.2.1.2.1
  have hts := wd_u E hc args
  have hin : ∀ w ∈ u_ws (nmC ci) (TC ci) (NC ci), w ∈ u_ws (nmC ci) (TC ci) (NC ci) := fun _ q => q
  have hown := E.1.2.2.2.2.1
  have hap := va_apart (own := mt.1.cls) hts hin (tyC ci) (tyC_ok ci hc) (nmC_ok ci hc) hK (cls_at hc)
  obtain ⟨r, h1, cell, q1, q2, q3, q4⟩ := hR.2.2 (a - 1) _ hw
  cases (h1.symm.trans (cls_at hc))
  obtain ⟨hSl, hfc, kC, hkC, hkind⟩ := hK.1 ci _ (cls_at hc)
  obtain ⟨cf, kf, fi, f, hi, hsl⟩ := hSl k hk
  have hlay := hts _ (u_in_lay hk)
  have hst := (u_facts hfc hkC (u_lays hts hin hk) hi).1
  have goOn : ∀ H' : Heap, H'[X.2.2.2 + a]? = some (cell.setSlot (X.2.1.2 ci k) (cv X.2.2.2 v)) → H'.size = H.size → (∀ q : Nat, q ≠ X.2.2.2 + a → H'[q]? = H[q]?) → W p X.1 e R s m args below meth c H' (locs ++ [⟨X.2.2.2 + a, X.2.1.2 ci k⟩]) cells slots (MQ below (QX X Q) args s R.cells R.slots (AX X)) (F0 m (pc + 3) ls (S.map (cv X.2.2.2))) := by
    intro H' g1 g2 g3
    refine h p e R s m args below meth c H' _ cells slots ls (E.on (E.2.2.2.2.2.2.put g2 g3 (show X.2.2.2 < X.2.2.2 + a by omega))) hL ?_
    exact Rl.put hR.2.1 hR.1 g2 h0 ho hc hS hoff hfv (hR.2.2.set ws_D hw ⟨_, cls_at hc, t_OB.to (V := updV (vp_V (fv X.2.2.2 M a ci)) k (cv X.2.2.2 v)) ⟨_, g1, q2, q3, t_set q4 hap hk _⟩ (fun j _ => vp_updV_set (by unfold fv; simpa using hk) _ j)⟩ g3)
  have hslot : ∃ x, cell.slots[f.slot]? = some x := ⟨_, by rw [hsl]; exact q4 k hk⟩
  rcases hfin with hfin | ⟨hfin, hname, hdecl, hlink⟩
  · unfold u_lay at hlay
    rw [if_neg (by rw [hfin]; decide)] at hlay
    have h6 := u_store hfc hkC hkind hlay hi (tyC_ok ci hc k hk) hn hfit
    rcases hl with hl | ⟨host, hl⟩
    · refine W.putK E.1.1 E.1.2.1 (f := f) ⟨hown, wd E hl args, ⟨_, _, _, hi⟩, hst⟩ (by rw [q2]; exact h6) q1 q3 (by rw [hsl]; exact k2_hasslot (q4 k hk)) rfl rfl hd fun H' g1 g2 g3 => ?_
      rw [hsl] at g1 ⊢
      exact goOn H' g1 g2 g3
    · refine va_WputK E.1.1 E.1.2.1 (f := f) hown (wd E hl args) hi hst (by rw [q2]; exact h6) q1 q3 (by rw [hsl]; exact k2_hasslot (q4 k hk)) rfl rfl hd fun H' g1 g2 g3 => ?_
      rw [hsl] at g1 ⊢
      exact goOn H' g1 g2 g3
  · unfold u_lay at hlay
    rw [if_pos hfin] at hlay
    have hcf : m.cls = cf := by
      obtain ⟨_, _, c', _, _, _, -, -, hf', -, -, -, hown2, -⟩ := Cond.laysFinal_spec hlay
      have e1 : c' = cf := by have := hi.symm.trans hf'; simp at this; exact this.1.symm
      rw [← e1]
      refine Option.some.inj (hown.symm.trans ?_)
      rw [hdecl]; exact hown2
    have h6 := u_fits hfc hkC hkind (Or.inr hlay) hi (tyC_ok ci hc k hk) hn hfit
    refine W.putFinK E.1.1 E.1.2.1 hown (wd E hlink args) hi hst hcf (E.1.2.2.2.2.2.2.trans hname) (by rw [q2]; exact h6) q1 q3 (by rw [hsl]; exact k2_hasslot (q4 k hk)) rfl rfl hd fun H' g1 g2 g3 => ?_
    rw [hsl] at g1 ⊢
    exact goOn H' g1 g2 g3
end PUT
