/-! ROWS for a walk with a final condition of its own, and with a local that is known otherwise (Z) -/
abbrev Fx : Type := Program × Env × Room × State × MethodId × Array Value × List Frame × Method × Code × (State → Prop)
def WV (F : Fx) (Z : Array Slot → Prop) (X : Cx) (d kc ns : Nat) (mt : MT) (pc : Nat) (L : List (Option AV)) (S : List AV) (M : Mem) (_ : Option AV → Mem → Prop) : Prop := match F with
  | (p, e, R, s, m, args, below, meth, c, Qf) => ∀ (H : Heap) (locs : List Loc) (cells slots : Nat) (ls : Array Slot), EX X d kc ns mt p R s m meth c H locs cells slots → hasL X.2.2.2 ls mt.2.2.1 L → Z ls → Rl X M H →
    W p X.1 e R s m args below meth c H locs cells slots Qf (F0 m pc ls (S.map (cv X.2.2.2)))
section ZROWS
variable {F : Fx} {Z : Array Slot → Prop} {X : Cx} {d kc ns : Nat} {mt : MT} {pc n : Nat} {L L' : List (Option AV)} {S : List AV} {M : Mem} {Q : Option AV → Mem → Prop}
theorem WV.st {pc' : Nat} {S' : List AV} (h : WV F Z X d kc ns mt pc' L S' M Q)
    (k : ∀ (p : Program) (e : Env) (R : Room) (s : State) (m : MethodId) (args : Array Value) (below : List Frame) (meth : Method) (c : Code) (H : Heap) (locs : List Loc) (cells slots : Nat) (ls : Array Slot) (Qf : State → Prop), EX X d kc ns mt p R s m meth c H locs cells slots →
      W p X.1 e R s m args below meth c H locs cells slots Qf (F0 m pc' ls (S'.map (cv X.2.2.2))) → W p X.1 e R s m args below meth c H locs cells slots Qf (F0 m pc ls (S.map (cv X.2.2.2)))) : WV F Z X d kc ns mt pc L S M Q := by
  obtain ⟨p, e, R, s, m, args, below, meth, c, Qf⟩ := F
  intro H locs cells slots ls E hL hZ hR
  exact k p e R s m args below meth c H locs cells slots ls _ E (h H locs cells slots ls E hL hZ hR)
theorem z_iconst {i : Int} {v : Int32} (hd : DC mt.2.1 pc (.iconst i) 1 n) (hv : Int32.ofInt i = v) (h : WV F Z X d kc ns mt n L (vI v :: S) M Q) : WV F Z X d kc ns mt pc L S M Q := by
  obtain ⟨hd, rfl⟩ := hd
  exact h.st fun p e R s m args below meth c H locs cells slots ls Qf E w => lv_iconst E.1.1 E.1.2.1 hd hv w
theorem z_bipush {i : Int} {v : Int32} (hd : DC mt.2.1 pc (.bipush i) 2 n) (hv : (Int8.ofInt i).toInt32 = v) (h : WV F Z X d kc ns mt n L (vI v :: S) M Q) : WV F Z X d kc ns mt pc L S M Q := by
  obtain ⟨hd, rfl⟩ := hd
  exact h.st fun p e R s m args below meth c H locs cells slots ls Qf E w => lv_bipush E.1.1 E.1.2.1 hd hv w
theorem z_iadd {x y : Int32} (hd : DC mt.2.1 pc .iadd 1 n) (h : WV F Z X d kc ns mt n L (vI (x + y) :: S) M Q) : WV F Z X d kc ns mt pc L (vI y :: vI x :: S) M Q := by
  obtain ⟨hd, rfl⟩ := hd
  exact h.st fun p e R s m args below meth c H locs cells slots ls Qf E w => lv_iadd E.1.1 E.1.2.1 hd w
theorem z_isub {x y : Int32} (hd : DC mt.2.1 pc .isub 1 n) (h : WV F Z X d kc ns mt n L (vI (x - y) :: S) M Q) : WV F Z X d kc ns mt pc L (vI y :: vI x :: S) M Q := by
  obtain ⟨hd, rfl⟩ := hd
  exact h.st fun p e R s m args below meth c H locs cells slots ls Qf E w => lv_isub E.1.1 E.1.2.1 hd w
theorem z_iand {x y : Int32} (hd : DC mt.2.1 pc .iand 1 n) (h : WV F Z X d kc ns mt n L (vI (x &&& y) :: S) M Q) : WV F Z X d kc ns mt pc L (vI y :: vI x :: S) M Q := by
  obtain ⟨hd, rfl⟩ := hd
  exact h.st fun p e R s m args below meth c H locs cells slots ls Qf E w => lv_iand E.1.1 E.1.2.1 hd w
theorem z_ldc2 {i : Nat} {v : Int64} (hd : DC mt.2.1 pc (.ldc2_w i) 3 n) (hw : Cond.constantLong mt.1.cls i v ∈ lw_tbl) (h : WV F Z X d kc ns mt n L (vJ v :: S) M Q) : WV F Z X d kc ns mt pc L S M Q := by
  obtain ⟨hd, rfl⟩ := hd
  exact h.st fun p e R s m args below meth c H locs cells slots ls Qf E w => lv_ldc2 E.1.1 E.1.2.1 E.1.2.2.2.2.1 (wd E hw _) hd w
theorem z_i2l {x : Int32} (hd : DC mt.2.1 pc .i2l 1 n) (h : WV F Z X d kc ns mt n L (vJ x.toInt64 :: S) M Q) : WV F Z X d kc ns mt pc L (vI x :: S) M Q := by
  obtain ⟨hd, rfl⟩ := hd
  exact h.st fun p e R s m args below meth c H locs cells slots ls Qf E w => lv_i2l E.1.1 E.1.2.1 hd rfl w
theorem z_lshl {x : Int64} {y : Int32} (hd : DC mt.2.1 pc .lshl 1 n) (h : WV F Z X d kc ns mt n L (vJ (lshl x y) :: S) M Q) : WV F Z X d kc ns mt pc L (vI y :: vJ x :: S) M Q := by
  obtain ⟨hd, rfl⟩ := hd
  exact h.st fun p e R s m args below meth c H locs cells slots ls Qf E w => lv_lshl E.1.1 E.1.2.1 hd rfl w
theorem z_land {x y : Int64} (hd : DC mt.2.1 pc .land 1 n) (h : WV F Z X d kc ns mt n L (vJ (x &&& y) :: S) M Q) : WV F Z X d kc ns mt pc L (vJ y :: vJ x :: S) M Q := by
  obtain ⟨hd, rfl⟩ := hd
  exact h.st fun p e R s m args below meth c H locs cells slots ls Qf E w => lv_land E.1.1 E.1.2.1 hd w
theorem z_lor {x y : Int64} (hd : DC mt.2.1 pc .lor 1 n) (h : WV F Z X d kc ns mt n L (vJ (x ||| y) :: S) M Q) : WV F Z X d kc ns mt pc L (vJ y :: vJ x :: S) M Q := by
  obtain ⟨hd, rfl⟩ := hd
  exact h.st fun p e R s m args below meth c H locs cells slots ls Qf E w => lv_lor E.1.1 E.1.2.1 hd w
theorem z_lcmp {x y : Int64} (hd : DC mt.2.1 pc .lcmp 1 n) (h : WV F Z X d kc ns mt n L (vI (lcmpV x y) :: S) M Q) : WV F Z X d kc ns mt pc L (vJ y :: vJ x :: S) M Q := by
  obtain ⟨hd, rfl⟩ := hd
  exact h.st fun p e R s m args below meth c H locs cells slots ls Qf E w => W.lcmp E.1.1 E.1.2.1 hd w
theorem z_if_eq {x : Int32} {off : Int} {t : Nat} (hd : DC mt.2.1 pc (.ifCond .eq off) 3 n) (ht : tg pc off t) (h1 : x = 0 → WV F Z X d kc ns mt t L S M Q) (h2 : ¬ x = 0 → WV F Z X d kc ns mt n L S M Q) : WV F Z X d kc ns mt pc L (vI x :: S) M Q := by
  obtain ⟨hd, rfl⟩ := hd
  obtain ⟨p, e, R, s, m, args, below, meth, c, Qf⟩ := F
  intro H locs cells slots ls E hL hZ hR
  exact lv_if_eq E.1.1 E.1.2.1 hd ht (fun q => h1 q H locs cells slots ls E hL hZ hR) (fun q => h2 q H locs cells slots ls E hL hZ hR)
theorem z_if_ne {x : Int32} {off : Int} {t : Nat} (hd : DC mt.2.1 pc (.ifCond .ne off) 3 n) (ht : tg pc off t) (h1 : ¬ x = 0 → WV F Z X d kc ns mt t L S M Q) (h2 : x = 0 → WV F Z X d kc ns mt n L S M Q) : WV F Z X d kc ns mt pc L (vI x :: S) M Q := by
  obtain ⟨hd, rfl⟩ := hd
  obtain ⟨p, e, R, s, m, args, below, meth, c, Qf⟩ := F
  intro H locs cells slots ls E hL hZ hR
  exact lv_if_ne E.1.1 E.1.2.1 hd ht (fun q => h1 q H locs cells slots ls E hL hZ hR) (fun q => h2 q H locs cells slots ls E hL hZ hR)
theorem z_if_lt {x : Int32} {off : Int} {t : Nat} (hd : DC mt.2.1 pc (.ifCond .lt off) 3 n) (ht : tg pc off t) (h1 : x < 0 → WV F Z X d kc ns mt t L S M Q) (h2 : ¬ x < 0 → WV F Z X d kc ns mt n L S M Q) : WV F Z X d kc ns mt pc L (vI x :: S) M Q := by
  obtain ⟨hd, rfl⟩ := hd
  obtain ⟨p, e, R, s, m, args, below, meth, c, Qf⟩ := F
  intro H locs cells slots ls E hL hZ hR
  exact lv_if_lt E.1.1 E.1.2.1 hd ht (fun q => h1 q H locs cells slots ls E hL hZ hR) (fun q => h2 q H locs cells slots ls E hL hZ hR)
theorem z_icmp_eq {x y : Int32} {off : Int} {t : Nat} (hd : DC mt.2.1 pc (.if_icmp .eq off) 3 n) (ht : tg pc off t) (h1 : x = y → WV F Z X d kc ns mt t L S M Q) (h2 : ¬ x = y → WV F Z X d kc ns mt n L S M Q) : WV F Z X d kc ns mt pc L (vI y :: vI x :: S) M Q := by
  obtain ⟨hd, rfl⟩ := hd
  obtain ⟨p, e, R, s, m, args, below, meth, c, Qf⟩ := F
  intro H locs cells slots ls E hL hZ hR
  exact lv_icmp_eq E.1.1 E.1.2.1 hd ht (fun q => h1 q H locs cells slots ls E hL hZ hR) (fun q => h2 q H locs cells slots ls E hL hZ hR)
theorem z_icmp_gt {x y : Int32} {off : Int} {t : Nat} (hd : DC mt.2.1 pc (.if_icmp .gt off) 3 n) (ht : tg pc off t) (h1 : y < x → WV F Z X d kc ns mt t L S M Q) (h2 : ¬ y < x → WV F Z X d kc ns mt n L S M Q) : WV F Z X d kc ns mt pc L (vI y :: vI x :: S) M Q := by
  obtain ⟨hd, rfl⟩ := hd
  obtain ⟨p, e, R, s, m, args, below, meth, c, Qf⟩ := F
  intro H locs cells slots ls E hL hZ hR
  exact lv_icmp_gt E.1.1 E.1.2.1 hd ht (fun q => h1 q H locs cells slots ls E hL hZ hR) (fun q => h2 q H locs cells slots ls E hL hZ hR)
theorem z_icmp_ge {x y : Int32} {off : Int} {t : Nat} (hd : DC mt.2.1 pc (.if_icmp .ge off) 3 n) (ht : tg pc off t) (h1 : y ≤ x → WV F Z X d kc ns mt t L S M Q) (h2 : ¬ y ≤ x → WV F Z X d kc ns mt n L S M Q) : WV F Z X d kc ns mt pc L (vI y :: vI x :: S) M Q := by
  obtain ⟨hd, rfl⟩ := hd
  obtain ⟨p, e, R, s, m, args, below, meth, c, Qf⟩ := F
  intro H locs cells slots ls E hL hZ hR
  exact lv_icmp_ge E.1.1 E.1.2.1 hd ht (fun q => h1 q H locs cells slots ls E hL hZ hR) (fun q => h2 q H locs cells slots ls E hL hZ hR)
theorem z_icmp_le {x y : Int32} {off : Int} {t : Nat} (hd : DC mt.2.1 pc (.if_icmp .le off) 3 n) (ht : tg pc off t) (h1 : x ≤ y → WV F Z X d kc ns mt t L S M Q) (h2 : ¬ x ≤ y → WV F Z X d kc ns mt n L S M Q) : WV F Z X d kc ns mt pc L (vI y :: vI x :: S) M Q := by
  obtain ⟨hd, rfl⟩ := hd
  obtain ⟨p, e, R, s, m, args, below, meth, c, Qf⟩ := F
  intro H locs cells slots ls E hL hZ hR
  exact lv_icmp_le E.1.1 E.1.2.1 hd ht (fun q => h1 q H locs cells slots ls E hL hZ hR) (fun q => h2 q H locs cells slots ls E hL hZ hR)
theorem z_goto {off : Int} {t : Nat} (hd : DC mt.2.1 pc (.goto off) 3 n) (ht : tg pc off t) (h : WV F Z X d kc ns mt t L S M Q) : WV F Z X d kc ns mt pc L S M Q := by
  obtain ⟨hd, rfl⟩ := hd
  exact h.st fun p e R s m args below meth c H locs cells slots ls Qf E w => lv_goto E.1.1 E.1.2.1 hd ht w
theorem z_table {x : Int32} {dflt lo hi : Int} {offs : Array Int} {len : Nat} (hd : DC mt.2.1 pc (.tableswitch dflt lo hi offs) len n) {td : Nat} (ht : tg pc dflt td) (h1 : (x.toInt < lo ∨ hi < x.toInt) → WV F Z X d kc ns mt td L S M Q) (h2 : ∀ k : Nat, x.toInt = lo + k → ¬ hi < lo + k → ∃ off t, offs[k]? = some off ∧ tg pc off t ∧ WV F Z X d kc ns mt t L S M Q) : WV F Z X d kc ns mt pc L (vI x :: S) M Q := by
  obtain ⟨hd, rfl⟩ := hd
  obtain ⟨p, e, R, s, m, args, below, meth, c, Qf⟩ := F
  intro H locs cells slots ls E hL hZ hR
  by_cases h : x.toInt < lo ∨ hi < x.toInt
  · exact lv_tableOut E.1.1 E.1.2.1 hd h ht (h1 h H locs cells slots ls E hL hZ hR)
  · obtain ⟨off, t, ho, ht2, hw⟩ := h2 (x.toInt - lo).toNat (by omega) (by omega)
    exact lv_tableIn E.1.1 E.1.2.1 hd (fun z => h (Or.inl z)) (fun z => h (Or.inr z)) ho ht2 (hw H locs cells slots ls E hL hZ hR)
theorem z_ifnull {a : Nat} {off : Int} {t : Nat} (hd : DC mt.2.1 pc (.ifnull off) 3 n) (ht : tg pc off t) (h1 : a = 0 → WV F Z X d kc ns mt t L S M Q) (h2 : ¬ a = 0 → WV F Z X d kc ns mt n L S M Q) : WV F Z X d kc ns mt pc L (vR a :: S) M Q := by
  obtain ⟨hd, rfl⟩ := hd
  by_cases h0 : a = 0
  · subst h0
    exact (h1 rfl).st fun p e R s m args below meth c H locs cells slots ls Qf E w => lv_ifnullN E.1.1 E.1.2.1 hd ht w
  · exact (h2 h0).st fun p e R s m args below meth c H locs cells slots ls Qf E w => by
      show W _ _ _ _ _ _ _ _ _ _ _ _ _ _ _ (F0 m pc ls (va_rf (rO X.2.2.2 a) :: S.map (cv X.2.2.2)))
      rw [rO_pos (by omega)]
      exact lv_ifnull E.1.1 E.1.2.1 hd w
theorem z_aload_n {k : Fin 4} {i : Nat} {a : Nat} (hd : DC mt.2.1 pc (.aload_n k) 1 n) (hi : (k : Nat) = i) (hl : L[i]? = some (some (vR a))) (h : WV F Z X d kc ns mt n L (vR a :: S) M Q) : WV F Z X d kc ns mt pc L S M Q := by
  obtain ⟨hd, rfl⟩ := hd
  obtain ⟨p, e, R, s, m, args, below, meth, c, Qf⟩ := F
  intro H locs cells slots ls E hL hZ hR
  have h1 := hL.2.2 i _ hl
  have h2 := h H locs cells slots ls E hL hZ hR
  by_cases h0 : a = 0
  · subst h0
    exact lv_aload_nN E.1.1 E.1.2.1 hd hi h1 h2
  · have e1 : cv X.2.2.2 (vR a) = .ref (X.2.2.2 + a) := rO_pos (by omega)
    rw [e1] at h1
    rw [List.map_cons, e1] at h2
    exact lv_aload_n E.1.1 E.1.2.1 hd hi h1 h2
theorem z_aload {i : Nat} {a : Nat} (hd : DC mt.2.1 pc (.aload i) 2 n) (hl : L[i]? = some (some (vR a))) (h : WV F Z X d kc ns mt n L (vR a :: S) M Q) : WV F Z X d kc ns mt pc L S M Q := by
  obtain ⟨hd, rfl⟩ := hd
  obtain ⟨p, e, R, s, m, args, below, meth, c, Qf⟩ := F
  intro H locs cells slots ls E hL hZ hR
  have h1 := hL.2.2 i _ hl
  have h2 := h H locs cells slots ls E hL hZ hR
  by_cases h0 : a = 0
  · subst h0
    exact lv_aloadN E.1.1 E.1.2.1 hd h1 h2
  · have e1 : cv X.2.2.2 (vR a) = .ref (X.2.2.2 + a) := rO_pos (by omega)
    rw [e1] at h1
    rw [List.map_cons, e1] at h2
    exact lv_aload E.1.1 E.1.2.1 hd h1 h2
theorem z_iload_n {k : Fin 4} {i : Nat} {x : Int32} (hd : DC mt.2.1 pc (.iload_n k) 1 n) (hi : (k : Nat) = i) (hl : L[i]? = some (some (vI x))) (h : WV F Z X d kc ns mt n L (vI x :: S) M Q) : WV F Z X d kc ns mt pc L S M Q := by
  obtain ⟨hd, rfl⟩ := hd
  obtain ⟨p, e, R, s, m, args, below, meth, c, Qf⟩ := F
  intro H locs cells slots ls E hL hZ hR
  exact lv_iload_n E.1.1 E.1.2.1 hd hi (hL.2.2 i _ hl) (h H locs cells slots ls E hL hZ hR)
theorem z_iload {i : Nat} {x : Int32} (hd : DC mt.2.1 pc (.iload i) 2 n) (hl : L[i]? = some (some (vI x))) (h : WV F Z X d kc ns mt n L (vI x :: S) M Q) : WV F Z X d kc ns mt pc L S M Q := by
  obtain ⟨hd, rfl⟩ := hd
  obtain ⟨p, e, R, s, m, args, below, meth, c, Qf⟩ := F
  intro H locs cells slots ls E hL hZ hR
  exact lv_iload E.1.1 E.1.2.1 hd (hL.2.2 i _ hl) (h H locs cells slots ls E hL hZ hR)
theorem z_dup {v : AV} (hd : DC mt.2.1 pc .dup 1 n) (hc : c1 v = true) (h : WV F Z X d kc ns mt n L (v :: v :: S) M Q) : WV F Z X d kc ns mt pc L (v :: S) M Q := by
  obtain ⟨hd, rfl⟩ := hd
  exact h.st fun p e R s m args below meth c H locs cells slots ls Qf E w => lv_dup E.1.1 E.1.2.1 hd (c1_cat hc) w
theorem z_get {a ci k idx n0 : Nat} {v : AV} (hd : DC mt.2.1 pc (.getfield idx) 3 n) (hl : lnk mt.1.cls idx ci k) (hc : ci < 12) (hk : k < NC ci) (ho : isK M a ci n0) (hv : (if rfC ci k then va_rf (rO X.2.2.2 (M.2.1 a k)) else .int (M.1 a k)) = cv X.2.2.2 v) (h : WV F Z X d kc ns mt n L (v :: S) M Q) : WV F Z X d kc ns mt pc L (vR a :: S) M Q := by
  obtain ⟨hd, rfl⟩ := hd
  obtain ⟨p, e, R, s, m, args, below, meth, c, Qf⟩ := F
  intro H locs cells slots ls E hL hZ hR
  have h0 := isK_pos hR ho (by omega)
  have hw : (wsM X.2.2.2 X.2.2.1 M)[a - 1]? = some (X.2.2.2 + a, .inr (ci, fv X.2.2.2 M a ci)) := by rw [ws_at h0 (isK_lt ho), cE_obj ho hc]
  have h1 := h H locs cells slots ls E hL hZ hR
  have e1 : cv X.2.2.2 (vR a) = .ref (X.2.2.2 + a) := rO_pos h0
  rw [List.map_cons, e1]
  rcases hl with hl | ⟨host, hl⟩
  · exact va_get E.1.1 E.1.2.1 (wd_u E hc args) (fun _ q => q) E.1.2.2.2.2.1 E.2.2.2.2.2.1.2.1 hR.2.2 (a - 1) hw (cls_at hc) k hk (wd E hl _) (fun _ q => q) ((fv_at hk).trans (congrArg some hv)) hd h1
  · exact va_getN E.1.1 E.1.2.1 (wd_u E hc args) (fun _ q => q) E.1.2.2.2.2.1 E.2.2.2.2.2.1.2.1 hR.2.2 (a - 1) hw (cls_at hc) k hk (wd E hl _) (fun _ q => q) ((fv_at hk).trans (congrArg some hv)) hd h1
theorem z_getI {a ci k idx n0 : Nat} (hd : DC mt.2.1 pc (.getfield idx) 3 n) (hl : lnk mt.1.cls idx ci k) (hf : (decide (ci < 12) && decide (k < NC ci) && !rfC ci k) = true) (ho : isK M a ci n0) (h : WV F Z X d kc ns mt n L (vI (mI M a k) :: S) M Q) : WV F Z X d kc ns mt pc L (vR a :: S) M Q := by
  simp only [Bool.and_eq_true, decide_eq_true_eq, Bool.not_eq_true'] at hf
  exact z_get hd hl hf.1.1 hf.1.2 ho (by rw [hf.2]; rfl) h
theorem z_lald {a n0 : Nat} {i : Int32} (hd : DC mt.2.1 pc .laload 1 n) (ho : isK M a 20 n0) (hi : vp_in i n0) (h : WV F Z X d kc ns mt n L (vJ (mJ M a (ix i)) :: S) M Q) : WV F Z X d kc ns mt pc L (vI i :: vR a :: S) M Q := by
  obtain ⟨hd, rfl⟩ := hd
  obtain ⟨p, e, R, s, m, args, below, meth, c, Qf⟩ := F
  intro H locs cells slots ls E hL hZ hR
  obtain ⟨h0, hw⟩ := ws_arr hR ho (by decide) (cE_long ho)
  rw [List.map_cons, List.map_cons, show cv X.2.2.2 (vR a) = .ref (X.2.2.2 + a) from rO_pos h0]
  exact va_lald E.1.1 E.1.2.1 E.2.2.2.2.2.1.2.1 hR.2.2 (a - 1) 8 hw rfl hi hd (h H locs cells slots ls E hL hZ hR)
theorem z_new {ci idx N : Nat} (hd : DC mt.2.1 pc (.new idx) 3 n) (hc : ci < 12) (hN : NC ci = N) (hl : Cond.classLink mt.1.cls idx (nmC ci) ∈ lw_tbl) (hins : Cond.instantiable (nmC ci) N ∈ lw_tbl) (hini : Cond.initialized (nmC ci) ∈ lw_tbl) (h1 : 1 ≤ kc) (h2 : N ≤ ns) (h : WV F Z X d (kc - 1) (ns - N) mt n L (vR (nx M) :: S) (nw M ci N) Q) : WV F Z X d kc ns mt pc L S M Q := by
  obtain ⟨hd, rfl⟩ := hd
  subst hN
  obtain ⟨p, e, R, s, m, args, below, meth, c, Qf⟩ := F
  intro H locs cells slots ls E hL hZ hR
  have hK := E.2.2.2.2.2.1.2.1
  have hKn := hK.1 ci _ (cls_at hc)
  have hl0 : 0 < M.2.2.2.length := (List.getElem?_eq_some_iff.mp hR.2.1).1
  refine W.newcK E.1.1 E.1.2.1 E.1.2.2.2.2.1 (wd E hl args) (wd E hins args) (wd E hini args) rfl hd (by have := E.2.2.2.1; omega) (by have := E.2.2.2.2.1; omega) hKn.2.1 hR.1 fun H1 kC hkC e1 z1 o1 => ?_
  have ok : ∀ q, q < H.size → H1[q]? = H[q]? := fun q hq => o1 q (by rw [← hR.1]; exact hq)
  have hz : H1.size = H.size + 1 := by rw [z1, hR.1]
  have hw := h H1 locs (cells + 1) (slots + NC ci) ls ((E.spend h1 h2).on (E.2.2.2.2.2.2.grow hz ok)) hL hZ
    (Rl.push (M' := nw M ci (NC ci)) (e := .inr (ci, (List.range (NC ci)).map (fun j => if rfC ci j then Value.null else .int 0))) hR rfl (fun b hb => cE_old (k := ci) (n0 := NC ci) rfl hb (by unfold nw; funext j; simp [Nat.ne_of_lt hb]) (by unfold nw; funext j; simp [Nat.ne_of_lt hb]) (by unfold nw; funext j; simp [Nat.ne_of_lt hb])) ((cE_obj (M := nw M ci (NC ci)) (isK_nw (M := M)) hc).trans (by rw [show nx M = M.2.2.2.length from rfl, fv_new])) hz ok
      ⟨_, cls_at hc, (u_born (tyC ci) (wd_u E hc args) (fun _ q => q) hKn hkC e1 (tyC_ok ci hc)).to (fun j hj => by
        have hv : vp_V ((List.range (NC ci)).map (fun j => if rfC ci j then Value.null else .int 0)) j = if rfC ci j then Value.null else .int 0 := by
          unfold vp_V; rw [List.getD_eq_getElem?_getD, List.getElem?_map, List.getElem?_range hj]; rfl
        rw [hv]
        cases hr : rfC ci j with
        | false => exact (rfC_ok ci hc j hj).1 hr
        | true => exact ((rfC_ok ci hc j hj).2 hr).1)⟩)
  rw [List.map_cons, show cv X.2.2.2 (vR (nx M)) = .ref (X.2.2.2 + M.2.2.2.length) from rO_pos hl0] at hw
  exact hw
theorem z_newa {at_ : ArrayType} {k : Nat} {x : Int32} (hd : DC mt.2.1 pc (.newarray at_) 2 n) (hk : (match at_ with | .boolean => k = 15 | .byte => k = 12 | .char => k = 13 | .int => k = 14 | .long => k = 20 | _ => False)) (hl : Cond.arrayClass (newarray.typeOf at_) ∈ lw_tbl) (hx : vp_in x 65536) (h1 : 1 ≤ kc) (h2 : ix x ≤ ns) (h : WV F Z X d (kc - 1) (ns - ix x) mt n L (vR (nx M) :: S) (nw M k (ix x)) Q) : WV F Z X d kc ns mt pc L (vI x :: S) M Q := by
  obtain ⟨hd, rfl⟩ := hd
  obtain ⟨p, e, R, s, m, args, below, meth, c, Qf⟩ := F
  intro H locs cells slots ls E hL hZ hR
  have hK := E.2.2.2.2.2.1.2.1
  have hl0 : 0 < M.2.2.2.length := (List.getElem?_eq_some_iff.mp hR.2.1).1
  have hb1 : ¬ x < 0 := fun q => hx (Or.inl q)
  have hb2 : x.toNatClampNeg < 65536 := Nat.not_le.mp fun q => hx (Or.inr q)
  have hcb : componentBytes (newarray.typeOf at_) ≤ 8 := by cases at_ <;> decide
  have hby : x.toNatClampNeg * componentBytes (newarray.typeOf at_) ≤ 536870912 := Nat.le_trans (Nat.mul_le_mul (Nat.le_of_lt hb2) hcb) (by decide)
  refine va_newaK E.1.1 E.1.2.1 (wd E hl args) rfl hd rfl hb1 rfl hby (by have := E.2.2.2.1; omega) (by have := E.2.2.2.2.1; unfold ix at h2; omega) hR.1 fun H1 cA e1 z1 o1 hAr hNm => ?_
  have ok : ∀ q, q < H.size → H1[q]? = H[q]? := fun q hq => o1 q (by rw [← hR.1]; exact hq)
  have hz : H1.size = H.size + 1 := by rw [z1, hR.1]
  have hold : ∀ b, b < M.2.2.2.length → cE X.2.2.2 X.2.2.1 (nw M k (ix x)) b = cE X.2.2.2 X.2.2.1 M b := fun b hb => cE_old (k := k) (n0 := ix x) rfl hb (by unfold nw; funext j; simp [Nat.ne_of_lt hb]) (by unfold nw; funext j; simp [Nat.ne_of_lt hb]) (by unfold nw; funext j; simp [Nat.ne_of_lt hb])
  have hcell : va_at X.2.1 cls (X.2.2.2 + M.2.2.2.length, cE X.2.2.2 X.2.2.1 (nw M k (ix x)) M.2.2.2.length) H1 := by
    have hi : isK (nw M k (ix x)) M.2.2.2.length k (ix x) := isK_nw (M := M)
    have hcy : ∀ (t0 : Nat) (ty : FieldType), (tysX X)[t0]? = some (X.2.2.1 k, ty) → ty = newarray.typeOf at_ → (match ty with | .object _ => False | _ => True) → cA = X.2.2.1 k := by
      intro t0 ty h0 he ho
      have h9 := (hK.2 t0 _ h0).2
      subst he
      have h8 : s.vm.findClass ("[" ++ (newarray.typeOf at_).toString) = some (X.2.2.1 k) := by cases at_ <;> exact h9
      exact Option.some.inj (hNm.symm.trans h8)
    cases at_ <;> simp only at hk <;> first | (exact hk.elim) | skip
    · subst hk
      rw [cE_int hi (by decide) (by decide), ← hcy 3 .boolean rfl rfl trivial]
      show H1[_]? = some (vp_cell _ _)
      rw [vp_cell_i, e1]
      unfold nw
      simp [defaultValue, newarray.typeOf, ix]
    · subst hk
      rw [cE_int hi (by decide) (by decide), ← hcy 1 .char rfl rfl trivial]
      show H1[_]? = some (vp_cell _ _)
      rw [vp_cell_i, e1]
      unfold nw
      simp [defaultValue, newarray.typeOf, ix]
    · subst hk
      rw [cE_int hi (by decide) (by decide), ← hcy 0 .byte rfl rfl trivial]
      show H1[_]? = some (vp_cell _ _)
      rw [vp_cell_i, e1]
      unfold nw
      simp [defaultValue, newarray.typeOf, ix]
    · subst hk
      rw [cE_int hi (by decide) (by decide), ← hcy 2 .int rfl rfl trivial]
      show H1[_]? = some (vp_cell _ _)
      rw [vp_cell_i, e1]
      unfold nw
      simp [defaultValue, newarray.typeOf, ix]
    · subst hk
      rw [cE_long hi, ← hcy 8 .long rfl rfl trivial]
      show H1[_]? = some (vp_cell _ _)
      rw [vp_cell_l, e1]
      unfold nw
      simp [defaultValue, newarray.typeOf, ix]
  have hw := h H1 locs (cells + 1) (slots + ix x) ls ((E.spend h1 h2).on (E.2.2.2.2.2.2.grow hz ok)) hL hZ (Rl.push hR rfl hold rfl hz ok hcell)
  rw [List.map_cons, show cv X.2.2.2 (vR (nx M)) = .ref (X.2.2.2 + M.2.2.2.length) from rO_pos hl0] at hw
  exact hw
theorem z_callV {my : MT} {na ci a n0 idx kc1 ns1 : Nat} {As : List AV} {St : List AV} {Q' : Option AV → Mem → Prop} (hd : DC mt.2.1 pc (.invokevirtual idx) 3 n) (hl : mlk mt.1.cls idx my.1) (hm : mOKV my na ci) (ho : isK M a ci n0) (hna : As.length = na) (hst : As.reverse ++ vR a :: S = St) (hS4 : wS S ≤ 8) (hd1 : 1 ≤ d) (hk : kc1 ≤ kc) (hs : ns1 ≤ ns)
    (hcl : Cl X (d - 1) kc1 ns1 my (vR a :: As) M Q') (kk : ∀ (r : Option AV) (M' : Mem), Q' r M' → WV F Z X d (kc - kc1) (ns - ns1) mt n L (r.toList ++ S) M' Q) : WV F Z X d kc ns mt pc L St M Q := by
  obtain ⟨hd, rfl⟩ := hd
  subst hst hna
  obtain ⟨p, e, R, s, m, args, below, meth, c, Qf⟩ := F
  intro H locs cells slots ls E hL hZ hR
  obtain ⟨⟨w1, w2, w3⟩, w4, w5, w6, w7⟩ := hm
  simp only [Bool.and_eq_true, decide_eq_true_eq] at w3
  have h0 := isK_pos hR ho (by omega)
  have hw : (wsM X.2.2.2 X.2.2.1 M)[a - 1]? = some (X.2.2.2 + a, .inr (ci, fv X.2.2.2 M a ci)) := by rw [ws_at h0 (isK_lt ho), cE_obj ho w7]
  have e1 : cv X.2.2.2 (vR a) = .ref (X.2.2.2 + a) := rO_pos h0
  have hrecv := va_recv E.2.2.2.2.2.1.2.1 hR.2.2 (cls_at w7) hw
  have hpre : PreV s H my.1.cls (X.2.2.2 + a) (PX X (vR a :: As) M) (As.map (cv X.2.2.2)) := ⟨PX.blind, by rw [w6]; exact hrecv, fun U hU hW => by have := PX.pre (av := vR a :: As) E hR U hU hW; rw [List.map_cons, e1] at this; exact this⟩
  have hfit : cells + kc1 ≤ R.cells ∧ slots + ns1 ≤ R.slots := ⟨by have := E.2.2.2.1; omega, by have := E.2.2.2.2.1; omega⟩
  have hroom : (rmX (d - 1) kc1 ns1).frames + 1 ≤ R.frames ∧ 8 + (my.2.2.1 + 11) + (rmX (d - 1) kc1 ns1).locals ≤ R.locals := ⟨by show d - 1 + 1 ≤ _; have := E.2.1; omega, by show 8 + (my.2.2.1 + 11) + 64 * (d - 1) ≤ _; have := E.2.2.1; have := w3.2; omega⟩
  have hdd := (⟨w3.1.1.1, w3.1.1.2, w3.1.2⟩ : my.1.cls ≠ "java/lang/invoke/MethodHandle" ∧ my.1.cls ≠ "java/lang/invoke/VarHandle" ∧ (parseMethodDescriptor my.1.desc).map (fun d => d.parameters.length) = some As.length)
  have hts : ∀ w ∈ [Cond.code my.1 my.2.1 my.2.2.1 my.2.2.2], w.before args s = true := fun w q => by cases List.mem_singleton.mp q; exact wd E w2 args
  have hst : ((As.reverse ++ vR a :: S).map (cv X.2.2.2)) = (As.map (cv X.2.2.2)).reverse ++ .ref (X.2.2.2 + a) :: S.map (cv X.2.2.2) := by
    rw [List.map_append, List.map_cons, e1, List.map_reverse]
  have hfix : CallFix p m c mt.2.1 mt.2.2.1 s args [Cond.code my.1 my.2.1 my.2.2.1 my.2.2.2] mt.1.cls := ⟨E.1.1, E.1.2.1, E.1.2.2.2.1, E.1.2.2.2.2.1, hts⟩
  have goOn : va_Run p X.1 e R s m args below meth c H locs cells slots kc1 ns1 (F0 m pc ls ((As.reverse ++ vR a :: S).map (cv X.2.2.2))) (S.map (cv X.2.2.2)) (QX X Q' (Value.ref (X.2.2.2 + a) :: As.map (cv X.2.2.2)).toArray) (AX X) := by
    rcases hl with hl | ⟨host, hl⟩
    · exact va_runV (C := my.1.cls) hfix hcl ⟨callB_of (rm := rmX (d - 1) kc1 ns1) As.length hts (goodCode1 my) rfl rfl rfl (wd E w1 args) (wd E hl args) hdd hroom, wd E w4 args, wd E w5 args⟩ hpre rfl (by simp) hL.1 hst (by show 2 * 0 + _ ≤ 8; have := cat8 (b0 := X.2.2.2) S; omega) hd hfit
    · exact va_runVN (C := my.1.cls) hfix hcl ⟨va_cnB (rm := rmX (d - 1) kc1 ns1) As.length hts (goodCode1 my) rfl rfl rfl (wd E hl #[]) (wd E w1 args) hdd hroom, wd E w4 args, wd E w5 args⟩ hpre rfl (by simp) hL.1 hst (by show 2 * 0 + _ ≤ 8; have := cat8 (b0 := X.2.2.2) S; omega) hd hfit
  refine callGo goOn E.2.2.2.2.2.2 fun r M' H1 locs1 hq hR1 hS1 => ?_
  have := kk r M' hq H1 locs1 (cells + kc1) (slots + ns1) ls ((E.spend hk hs).on hS1) hL hZ hR1
  rw [List.map_append] at this
  cases r with
  | none => exact this
  | some v => exact this
theorem z_callI {my : MT} {na ci a n0 idx kc1 ns1 : Nat} {As : List AV} {St : List AV} {Q' : Option AV → Mem → Prop} (hd : DC mt.2.1 pc (.invokespecial idx) 3 n) (hl : mlk mt.1.cls idx my.1) (hm : mOKI my na ci) (ho : isK M a ci n0) (hna : As.length = na) (hst : As.reverse ++ vR a :: S = St) (hS4 : wS S ≤ 8) (hd1 : 1 ≤ d) (hk : kc1 ≤ kc) (hs : ns1 ≤ ns)
    (hcl : Cl X (d - 1) kc1 ns1 my (vR a :: As) M Q') (kk : ∀ (r : Option AV) (M' : Mem), Q' r M' → WV F Z X d (kc - kc1) (ns - ns1) mt n L (r.toList ++ S) M' Q) : WV F Z X d kc ns mt pc L St M Q := by
  obtain ⟨hd, rfl⟩ := hd
  subst hst hna
  obtain ⟨p, e, R, s, m, args, below, meth, c, Qf⟩ := F
  intro H locs cells slots ls E hL hZ hR
  obtain ⟨y, bytes, maxL, ret⟩ := my
  obtain ⟨⟨w1, w2, w3⟩, w4, w5, w6, w7⟩ := hm
  dsimp only at w1 w2 w3 w4 w5 w6 w7 hl
  subst w6
  simp only [Bool.and_eq_true, decide_eq_true_eq] at w3
  have h0 := isK_pos hR ho (by omega)
  have e1 : cv X.2.2.2 (vR a) = .ref (X.2.2.2 + a) := rO_pos h0
  have hpre : PreS s H (PX X (vR a :: As) M) (.ref (X.2.2.2 + a) :: As.map (cv X.2.2.2)) := ⟨PX.blind, fun U hU hW => by have := PX.pre (av := vR a :: As) E hR U hU hW; rw [List.map_cons, e1] at this; exact this⟩
  have hfit : cells + kc1 ≤ R.cells ∧ slots + ns1 ≤ R.slots := ⟨by have := E.2.2.2.1; omega, by have := E.2.2.2.2.1; omega⟩
  have hroom : (rmX (d - 1) kc1 ns1).frames + 1 ≤ R.frames ∧ 8 + (maxL + 11) + (rmX (d - 1) kc1 ns1).locals ≤ R.locals := ⟨by show d - 1 + 1 ≤ _; have := E.2.1; omega, by show 8 + (maxL + 11) + 64 * (d - 1) ≤ _; have := E.2.2.1; have := w3.2; omega⟩
  have hdd := (⟨w3.1.1.1, w3.1.1.2, w3.1.2⟩ : y.cls ≠ "java/lang/invoke/MethodHandle" ∧ y.cls ≠ "java/lang/invoke/VarHandle" ∧ (parseMethodDescriptor y.desc).map (fun d => d.parameters.length) = some As.length)
  have hts : ∀ w ∈ [Cond.code y bytes maxL none], w.before args s = true := fun w q => by cases List.mem_singleton.mp q; exact wd E w2 args
  have hst : ((As.reverse ++ vR a :: S).map (cv X.2.2.2)) = (As.map (cv X.2.2.2)).reverse ++ .ref (X.2.2.2 + a) :: S.map (cv X.2.2.2) := by
    rw [List.map_append, List.map_cons, e1, List.map_reverse]
  have hfix : CallFix p m c mt.2.1 mt.2.2.1 s args [Cond.code y bytes maxL none] mt.1.cls := ⟨E.1.1, E.1.2.1, E.1.2.2.2.1, E.1.2.2.2.2.1, hts⟩
  have goOn : va_Run p X.1 e R s m args below meth c H locs cells slots kc1 ns1 (F0 m pc ls ((As.reverse ++ vR a :: S).map (cv X.2.2.2))) (S.map (cv X.2.2.2)) (QX X Q' (Value.ref (X.2.2.2 + a) :: As.map (cv X.2.2.2)).toArray) (AX X) := by
    rcases hl with hl | ⟨host, hl⟩
    · exact va_runI hfix hcl ⟨callB_of (rm := rmX (d - 1) kc1 ns1) As.length hts (goodCode1 (y, bytes, maxL, none)) rfl rfl rfl (wd E w1 args) (wd E hl args) hdd hroom, w5, wd E w4 args⟩ hpre rfl (by simp) hL.1 hst (by show 2 * 0 + _ ≤ 8; have := cat8 (b0 := X.2.2.2) S; omega) hd hfit
    · exact va_runIN hfix hcl ⟨va_cnB (rm := rmX (d - 1) kc1 ns1) As.length hts (goodCode1 (y, bytes, maxL, none)) rfl rfl rfl (wd E hl #[]) (wd E w1 args) hdd hroom, w5, wd E w4 args⟩ hpre rfl (by simp) hL.1 hst (by show 2 * 0 + _ ≤ 8; have := cat8 (b0 := X.2.2.2) S; omega) hd hfit
  refine callGo goOn E.2.2.2.2.2.2 fun r M' H1 locs1 hq hR1 hS1 => ?_
  have := kk r M' hq H1 locs1 (cells + kc1) (slots + ns1) ls ((E.spend hk hs).on hS1) hL hZ hR1
  rw [List.map_append] at this
  cases r with
  | none => exact this
  | some v => exact this
theorem z_forget (hf : ∀ (i : Nat) (v : AV), L'[i]? = some (some v) → L[i]? = some (some v)) (h : WV F Z X d kc ns mt pc L' S M Q) : WV F Z X d kc ns mt pc L S M Q := by
  obtain ⟨p, e, R, s, m, args, below, meth, c, Qf⟩ := F
  intro H locs cells slots ls E hL hZ hR
  exact h H locs cells slots ls E ⟨hL.1, hL.2.1, fun i v hv => hL.2.2 i v (hf i v hv)⟩ hZ hR
theorem z_msk (bs : List Bool) (h : WV F Z X d kc ns mt pc (msk bs L) S M Q) : WV F Z X d kc ns mt pc L S M Q := z_forget (fun i v hv => msk_at bs L i v hv) h
/-- less room is left -/
theorem z_less {k1 n1 : Nat} (hk : k1 ≤ kc) (hn : n1 ≤ ns) (h : WV F Z X d k1 n1 mt pc L S M Q) : WV F Z X d kc ns mt pc L S M Q := by
  obtain ⟨p, e, R, s, m, args, below, meth, c, Qf⟩ := F
  intro H locs cells slots ls E hL hZ hR
  exact h H locs cells slots ls ⟨E.1, E.2.1, E.2.2.1, by have := E.2.2.2.1; omega, by have := E.2.2.2.2.1; omega, E.2.2.2.2.2⟩ hL hZ hR
/-- local 0 holds the thing b -/
def zB (b : Nat) : Array Slot → Prop := fun ls => ls[0]? = some (.val (.ref b))
theorem zl_has {b0 b k : Nat} {ls : Array Slot} (h : hasL b0 ls k L) (hZ : zB b ls) : lv_has ls k ((0, .ref b) :: lvs b0 L) :=
  ⟨h.1, h.2.1, fun q hq => (List.mem_cons.mp hq).elim (fun e => by rw [e]; exact hZ) ((lvs_has h).2.2 q)⟩
theorem zl_out {b i k : Nat} {v : Value} {ls' : Array Slot} {lv : List (Nat × Value)} (hi : 0 < i) (h : lv_has ls' k ((i, v) :: ((0, .ref b) :: lv).filter (fun q => !(q.1 == i) && !(q.1 + 1 == i && q.2.category == 2)))) : lv_has ls' k ((i, v) :: lv.filter (fun q => !(q.1 == i) && !(q.1 + 1 == i && q.2.category == 2))) ∧ zB b ls' := by
  refine ⟨⟨h.1, h.2.1, fun q hq => h.2.2 q ?_⟩, h.2.2 (0, .ref b) (List.mem_cons_of_mem _ (List.mem_filter.mpr ⟨List.mem_cons_self, ?_⟩))⟩
  · rcases List.mem_cons.mp hq with w | w
    · rw [w]; exact List.mem_cons_self
    · obtain ⟨w1, w2⟩ := List.mem_filter.mp w
      exact List.mem_cons_of_mem _ (List.mem_filter.mpr ⟨List.mem_cons_of_mem _ w1, w2⟩)
  · have e1 : ((0 : Nat) == i) = false := by simp; omega
    have e2 : (Value.ref b).category = 1 := rfl
    simp [e1, e2]
theorem z_istore {b i : Nat} {x : Int32} (hd : DC mt.2.1 pc (.istore i) 2 n) (hi : 0 < i) (ho : okS L i = true) (hn : i < mt.2.2.1) (hL : L.set i (some (vI x)) = L') (h : WV F (zB b) X d kc ns mt n L' S M Q) : WV F (zB b) X d kc ns mt pc L (vI x :: S) M Q := by
  obtain ⟨hd, rfl⟩ := hd
  subst hL
  obtain ⟨p, e, R, s, m, args, below, meth, c, Qf⟩ := F
  intro H locs cells slots ls E hl hZ hR
  refine lv_istore E.1.1 E.1.2.1 hd (zl_has hl hZ) hn rfl fun ls' h' => ?_
  obtain ⟨h1, h2⟩ := zl_out hi h'
  exact h H locs cells slots ls' E (hasL_set (v := vI x) ho h1) h2 hR
theorem z_astore_n {b : Nat} {k : Fin 4} {i a : Nat} (hd : DC mt.2.1 pc (.astore_n k) 1 n) (hi : (k : Nat) = i) (hi0 : 0 < i) (ha : 0 < a) (ho : okS L i = true) (hn : i < mt.2.2.1) (hL : L.set i (some (vR a)) = L') (h : WV F (zB b) X d kc ns mt n L' S M Q) : WV F (zB b) X d kc ns mt pc L (vR a :: S) M Q := by
  obtain ⟨hd, rfl⟩ := hd
  subst hL
  obtain ⟨p, e, R, s, m, args, below, meth, c, Qf⟩ := F
  intro H locs cells slots ls E hl hZ hR
  have e1 : cv X.2.2.2 (vR a) = .ref (X.2.2.2 + a) := rO_pos ha
  rw [List.map_cons, e1]
  refine lv_astore_n E.1.1 E.1.2.1 hd hi (zl_has hl hZ) hn rfl fun ls' h' => ?_
  obtain ⟨h1, h2⟩ := zl_out hi0 h'
  exact h H locs cells slots ls' E (hasL_set (v := vR a) ho (by rw [e1]; exact h1)) h2 hR
theorem z_iinc {b i : Nat} {k : Int} {x v : Int32} (hd : DC mt.2.1 pc (.iinc i k) 3 n) (hi : 0 < i) (hx : L[i]? = some (some (vI x))) (hv : x + Int32.ofInt k = v) (ho : okS L i = true) (hn : i < mt.2.2.1) (hL : L.set i (some (vI v)) = L') (h : WV F (zB b) X d kc ns mt n L' S M Q) : WV F (zB b) X d kc ns mt pc L S M Q := by
  obtain ⟨hd, rfl⟩ := hd
  subst hL
  obtain ⟨p, e, R, s, m, args, below, meth, c, Qf⟩ := F
  intro H locs cells slots ls E hl hZ hR
  obtain ⟨j, hj⟩ := List.getElem?_of_mem (List.mem_cons_of_mem (0, Value.ref b) (lvs_mem (b0 := X.2.2.2) hx))
  refine lv_iinc E.1.1 E.1.2.1 hd (zl_has hl hZ) hj hv hn rfl fun ls' h' => ?_
  obtain ⟨h1, h2⟩ := zl_out hi h'
  exact h H locs cells slots ls' E (hasL_set (v := vI v) ho h1) h2 hR
/-- a store of a reference where no local is fixed -/
theorem z_astore0 {i a : Nat} (hd : DC mt.2.1 pc (.astore i) 2 n) (ho : okS L i = true) (hn : i < mt.2.2.1) (hL : L.set i (some (vR a)) = L') (h : WV F (fun _ => True) X d kc ns mt n L' S M Q) : WV F (fun _ => True) X d kc ns mt pc L (vR a :: S) M Q := by
  obtain ⟨hd, rfl⟩ := hd
  subst hL
  obtain ⟨p, e, R, s, m, args, below, meth, c, Qf⟩ := F
  intro H locs cells slots ls E hl hZ hR
  by_cases h0 : a = 0
  · subst h0
    exact lv_astoreN E.1.1 E.1.2.1 hd (lvs_has hl) hn rfl fun ls' h' => h H locs cells slots ls' E (hasL_set (v := vR 0) ho h') trivial hR
  · have e1 : cv X.2.2.2 (vR a) = .ref (X.2.2.2 + a) := rO_pos (by omega)
    rw [List.map_cons, e1]
    exact lv_astore E.1.1 E.1.2.1 hd (lvs_has hl) hn rfl fun ls' h' => h H locs cells slots ls' E (hasL_set (v := vR a) ho (by rw [e1]; exact h')) trivial hR
/-- the script: its length, and what stands at a place -/
theorem z_len {b Ls : Nat} {xs : Nat → Int32} (hd0 : DC mt.2.1 pc (.aload_n 0) 1 (pc + 1)) (hd1 : DC mt.2.1 (pc + 1) .arraylength 1 n) (hX : va_X b Ls xs F.2.2.2.1 F.2.2.2.1.heap) (hb : b < F.2.2.2.1.heap.size) (hA : ¬ AX X b) (h : WV F (zB b) X d kc ns mt n L (vI (nI Ls) :: S) M Q) : WV F (zB b) X d kc ns mt pc L S M Q := by
  obtain ⟨hd0, -⟩ := hd0
  obtain ⟨hd1, rfl⟩ := hd1
  obtain ⟨p, e, R, s, m, args, below, meth, c, Qf⟩ := F
  intro H locs cells slots ls E hl hZ hR
  exact lv_aload_n E.1.1 E.1.2.1 hd0 rfl hZ (va_slen E.1.1 E.1.2.1 hX hb hA E.2.2.2.2.2.2 hd1 (h H locs cells slots ls E hl hZ hR))
theorem z_at0 {b Ls i : Nat} {xs : Nat → Int32} (hd0 : DC mt.2.1 pc (.aload_n 0) 1 (pc + 1)) (hd1 : DC mt.2.1 (pc + 1) (.iload 4) 2 (pc + 3)) (hd4 : DC mt.2.1 (pc + 3) .iaload 1 n) (hX : va_X b Ls xs F.2.2.2.1 F.2.2.2.1.heap) (hb : b < F.2.2.2.1.heap.size) (hA : ¬ AX X b) (hL4 : L[4]? = some (some (vI (nI i)))) (hi : i < Ls) (hLs : Ls ≤ 3072)
    (h : WV F (zB b) X d kc ns mt n L (vI (xs i) :: S) M Q) : WV F (zB b) X d kc ns mt pc L S M Q := by
  obtain ⟨hd0, -⟩ := hd0
  obtain ⟨hd1, -⟩ := hd1
  obtain ⟨hd4, rfl⟩ := hd4
  obtain ⟨p, e, R, s, m, args, below, meth, c, Qf⟩ := F
  intro H locs cells slots ls E hl hZ hR
  have hin : vp_in (nI i) Ls := na_in hi (by omega)
  have e9 : (nI i).toNatClampNeg = i := na_ix (by omega)
  have h9 := h H locs cells slots ls E hl hZ hR
  refine lv_aload_n E.1.1 E.1.2.1 hd0 rfl hZ (lv_iload E.1.1 E.1.2.1 hd1 (hl.2.2 4 _ hL4) (va_sld E.1.1 E.1.2.1 hX hb hA E.2.2.2.2.2.2 hin hd4 ?_))
  rw [e9]; exact h9
theorem z_arg {b Ls i k : Nat} {kk : Int} {xs : Nat → Int32} (hd0 : DC mt.2.1 pc (.aload_n 0) 1 (pc + 1)) (hd1 : DC mt.2.1 (pc + 1) (.iload 4) 2 (pc + 3)) (hd2 : DC mt.2.1 (pc + 3) (.iconst kk) 1 (pc + 4)) (hd3 : DC mt.2.1 (pc + 4) .iadd 1 (pc + 5)) (hd4 : DC mt.2.1 (pc + 5) .iaload 1 n) (hk : Int32.ofInt kk = nI k) (hX : va_X b Ls xs F.2.2.2.1 F.2.2.2.1.heap) (hb : b < F.2.2.2.1.heap.size) (hA : ¬ AX X b) (hL4 : L[4]? = some (some (vI (nI i)))) (hi : i + k < Ls) (hLs : Ls ≤ 3072)
    (h : WV F (zB b) X d kc ns mt n L (vI (xs (i + k)) :: S) M Q) : WV F (zB b) X d kc ns mt pc L S M Q := by
  obtain ⟨hd0, -⟩ := hd0
  obtain ⟨hd1, -⟩ := hd1
  obtain ⟨hd2, -⟩ := hd2
  obtain ⟨hd3, -⟩ := hd3
  obtain ⟨hd4, rfl⟩ := hd4
  obtain ⟨p, e, R, s, m, args, below, meth, c, Qf⟩ := F
  intro H locs cells slots ls E hl hZ hR
  have hin : vp_in (nI i + nI k) Ls := by rw [nI_add]; exact na_in hi (by omega)
  have e9 : (nI i + nI k).toNatClampNeg = i + k := by rw [nI_add]; exact na_ix (by omega)
  have h9 := h H locs cells slots ls E hl hZ hR
  refine lv_aload_n E.1.1 E.1.2.1 hd0 rfl hZ (lv_iload E.1.1 E.1.2.1 hd1 (hl.2.2 4 _ hL4) (lv_iconst E.1.1 E.1.2.1 hd2 hk (lv_iadd E.1.1 E.1.2.1 hd3 (va_sld E.1.1 E.1.2.1 hX hb hA E.2.2.2.2.2.2 hin hd4 ?_))))
  rw [e9]; exact h9
end ZROWS
