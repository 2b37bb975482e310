/-! ROWS: one for each kind of instruction -/
def DC (b : ByteArray) (pc : Nat) (i : Instr) (len n : Nat) : Prop := decode b pc = .ok (i, len) ∧ pc + len = n
/-- a method's table of instructions: place, instruction, length, next place -/
def tOK (b : ByteArray) (T : List (Nat × Instr × Nat × Nat)) : Prop := ∀ q ∈ T, decode b q.1 = .ok (q.2.1, q.2.2.1) ∧ q.1 + q.2.2.1 = q.2.2.2
theorem tk {b : ByteArray} {T : List (Nat × Instr × Nat × Nat)} (h : tOK b T) (k : Nat) {pc len n : Nat} {i : Instr} (hk : T[k]? = some (pc, i, len, n)) : DC b pc i len n := h (pc, i, len, n) (List.mem_of_getElem? hk)
def tg (pc : Nat) (off : Int) (t : Nat) : Prop := (pc : Int) + off = (t : Int)
section ROWS
variable {X : Cx} {d kc ns : Nat} {mt : MT} {pc n : Nat} {L L' : List (Option AV)} {S : List AV} {M : Mem} {Q : Option AV → Mem → Prop}
theorem WA.st {pc' : Nat} {S' : List AV} (h : WA X d kc ns mt pc' L S' M Q)
    (k : ∀ (p : Program) (e : Env) (R : Room) (s : State) (m : MethodId) (args : Array Value) (below : List Frame) (meth : Method) (c : Code) (H : Heap) (locs : List Loc) (cells slots : Nat) (ls : Array Slot) (Qf : State → Prop), EX X d kc ns mt p R s m meth c H locs cells slots →
      W p X.1 e R s m args below meth c H locs cells slots Qf (F0 m pc' ls (S'.map (cv X.2.2.2))) → W p X.1 e R s m args below meth c H locs cells slots Qf (F0 m pc ls (S.map (cv X.2.2.2)))) : WA X d kc ns mt pc L S M Q :=
  fun p e R s m args below meth c H locs cells slots ls E hl hR => k p e R s m args below meth c H locs cells slots ls _ E (h p e R s m args below meth c H locs cells slots ls E hl hR)
theorem x_iconst {i : Int} {v : Int32} (hd : DC mt.2.1 pc (.iconst i) 1 n) (hv : Int32.ofInt i = v) (h : WA X d kc ns mt n L (vI v :: S) M Q) : WA X d kc ns mt pc L S M Q := by
  obtain ⟨hd, rfl⟩ := hd
  exact h.st fun p e R s m args below meth c H locs cells slots ls Qf E w => lv_iconst E.1.1 E.1.2.1 hd hv w
theorem x_bipush {i : Int} {v : Int32} (hd : DC mt.2.1 pc (.bipush i) 2 n) (hv : (Int8.ofInt i).toInt32 = v) (h : WA X d kc ns mt n L (vI v :: S) M Q) : WA X d kc ns mt pc L S M Q := by
  obtain ⟨hd, rfl⟩ := hd
  exact h.st fun p e R s m args below meth c H locs cells slots ls Qf E w => lv_bipush E.1.1 E.1.2.1 hd hv w
theorem x_sipush {i : Int} {v : Int32} (hd : DC mt.2.1 pc (.sipush i) 3 n) (hv : (Int16.ofInt i).toInt32 = v) (h : WA X d kc ns mt n L (vI v :: S) M Q) : WA X d kc ns mt pc L S M Q := by
  obtain ⟨hd, rfl⟩ := hd
  exact h.st fun p e R s m args below meth c H locs cells slots ls Qf E w => lv_sipush E.1.1 E.1.2.1 hd hv w
theorem x_ldc {i : Nat} {v : Int32} (hd : DC mt.2.1 pc (.ldc i) 2 n) (hw : Cond.constant mt.1.cls i v ∈ lw_tbl) (h : WA X d kc ns mt n L (vI v :: S) M Q) : WA X d kc ns mt pc L S M Q := by
  obtain ⟨hd, rfl⟩ := hd
  exact h.st fun p e R s m args below meth c H locs cells slots ls Qf E w => lv_ldc E.1.1 E.1.2.1 E.1.2.2.2.2.1 (wd E hw _) hd w
theorem x_ldcw {i : Nat} {v : Int32} (hd : DC mt.2.1 pc (.ldc_w i) 3 n) (hw : Cond.constant mt.1.cls i v ∈ lw_tbl) (h : WA X d kc ns mt n L (vI v :: S) M Q) : WA X d kc ns mt pc L S M Q := by
  obtain ⟨hd, rfl⟩ := hd
  exact h.st fun p e R s m args below meth c H locs cells slots ls Qf E w => lv_ldcw E.1.1 E.1.2.1 E.1.2.2.2.2.1 (wd E hw _) hd w
theorem x_ldc2 {i : Nat} {v : Int64} (hd : DC mt.2.1 pc (.ldc2_w i) 3 n) (hw : Cond.constantLong mt.1.cls i v ∈ lw_tbl) (h : WA X d kc ns mt n L (vJ v :: S) M Q) : WA X d kc ns mt pc L S M Q := by
  obtain ⟨hd, rfl⟩ := hd
  exact h.st fun p e R s m args below meth c H locs cells slots ls Qf E w => lv_ldc2 E.1.1 E.1.2.1 E.1.2.2.2.2.1 (wd E hw _) hd w
theorem x_null (hd : DC mt.2.1 pc .aconst_null 1 n) (h : WA X d kc ns mt n L (vR 0 :: S) M Q) : WA X d kc ns mt pc L S M Q := by
  obtain ⟨hd, rfl⟩ := hd
  exact h.st fun p e R s m args below meth c H locs cells slots ls Qf E w => lv_null E.1.1 E.1.2.1 hd w
theorem x_iadd {x y : Int32} (hd : DC mt.2.1 pc .iadd 1 n) (h : WA X d kc ns mt n L (vI (x + y) :: S) M Q) : WA X d kc ns mt pc L (vI y :: vI x :: S) M Q := by
  obtain ⟨hd, rfl⟩ := hd
  exact h.st fun p e R s m args below meth c H locs cells slots ls Qf E w => lv_iadd E.1.1 E.1.2.1 hd w
theorem x_isub {x y : Int32} (hd : DC mt.2.1 pc .isub 1 n) (h : WA X d kc ns mt n L (vI (x - y) :: S) M Q) : WA X d kc ns mt pc L (vI y :: vI x :: S) M Q := by
  obtain ⟨hd, rfl⟩ := hd
  exact h.st fun p e R s m args below meth c H locs cells slots ls Qf E w => lv_isub E.1.1 E.1.2.1 hd w
theorem x_imul {x y : Int32} (hd : DC mt.2.1 pc .imul 1 n) (h : WA X d kc ns mt n L (vI (x * y) :: S) M Q) : WA X d kc ns mt pc L (vI y :: vI x :: S) M Q := by
  obtain ⟨hd, rfl⟩ := hd
  exact h.st fun p e R s m args below meth c H locs cells slots ls Qf E w => lv_imul E.1.1 E.1.2.1 hd w
theorem x_iand {x y : Int32} (hd : DC mt.2.1 pc .iand 1 n) (h : WA X d kc ns mt n L (vI (x &&& y) :: S) M Q) : WA X d kc ns mt pc L (vI y :: vI x :: S) M Q := by
  obtain ⟨hd, rfl⟩ := hd
  exact h.st fun p e R s m args below meth c H locs cells slots ls Qf E w => lv_iand E.1.1 E.1.2.1 hd w
theorem x_ior {x y : Int32} (hd : DC mt.2.1 pc .ior 1 n) (h : WA X d kc ns mt n L (vI (x ||| y) :: S) M Q) : WA X d kc ns mt pc L (vI y :: vI x :: S) M Q := by
  obtain ⟨hd, rfl⟩ := hd
  exact h.st fun p e R s m args below meth c H locs cells slots ls Qf E w => lv_ior E.1.1 E.1.2.1 hd w
theorem x_ixor {x y : Int32} (hd : DC mt.2.1 pc .ixor 1 n) (h : WA X d kc ns mt n L (vI (x ^^^ y) :: S) M Q) : WA X d kc ns mt pc L (vI y :: vI x :: S) M Q := by
  obtain ⟨hd, rfl⟩ := hd
  exact h.st fun p e R s m args below meth c H locs cells slots ls Qf E w => lv_ixor E.1.1 E.1.2.1 hd w
theorem x_idiv {x y : Int32} (hd : DC mt.2.1 pc .idiv 1 n) (hne : ¬ y = 0) (h : WA X d kc ns mt n L (vI (x / y) :: S) M Q) : WA X d kc ns mt pc L (vI y :: vI x :: S) M Q := by
  obtain ⟨hd, rfl⟩ := hd
  exact h.st fun p e R s m args below meth c H locs cells slots ls Qf E w => lv_idiv E.1.1 E.1.2.1 hd hne w
theorem x_irem {x y : Int32} (hd : DC mt.2.1 pc .irem 1 n) (hne : ¬ y = 0) (h : WA X d kc ns mt n L (vI (x - x / y * y) :: S) M Q) : WA X d kc ns mt pc L (vI y :: vI x :: S) M Q := by
  obtain ⟨hd, rfl⟩ := hd
  exact h.st fun p e R s m args below meth c H locs cells slots ls Qf E w => lv_irem E.1.1 E.1.2.1 hd hne w
theorem x_ineg {x : Int32} (hd : DC mt.2.1 pc .ineg 1 n) (h : WA X d kc ns mt n L (vI (-x) :: S) M Q) : WA X d kc ns mt pc L (vI x :: S) M Q := by
  obtain ⟨hd, rfl⟩ := hd
  exact h.st fun p e R s m args below meth c H locs cells slots ls Qf E w => lv_ineg E.1.1 E.1.2.1 hd w
-- ==== by program ====

def shl (x y : Int32) : Int32 := x <<< (y &&& 31)
def shr (x y : Int32) : Int32 := x >>> (y &&& 31)
def ushr (x y : Int32) : Int32 := (x.toUInt32 >>> (y.toUInt32 &&& Int32.toUInt32 31)).toInt32
def lshl (x : Int64) (y : Int32) : Int64 := x <<< (y.toInt64 &&& 63)
def lushr (x : Int64) (y : Int32) : Int64 := (x.toUInt64 >>> (y.toInt64.toUInt64 &&& Int64.toUInt64 63)).toInt64
def remI (x y : Int32) : Int32 := x - x / y * y
def i2c (x : Int32) : Int32 := (x.toUInt32 % 65536).toInt32
def ix (i : Int32) : Nat := i.toNatClampNeg
theorem x_ishl {x y : Int32} (hd : DC mt.2.1 pc .ishl 1 n) (h : WA X d kc ns mt n L (vI (shl x y) :: S) M Q) : WA X d kc ns mt pc L (vI y :: vI x :: S) M Q := by
  obtain ⟨hd, rfl⟩ := hd
  exact h.st fun p e R s m args below meth c H locs cells slots ls Qf E w => lv_ishl E.1.1 E.1.2.1 hd w
theorem x_ishr {x y : Int32} (hd : DC mt.2.1 pc .ishr 1 n) (h : WA X d kc ns mt n L (vI (shr x y) :: S) M Q) : WA X d kc ns mt pc L (vI y :: vI x :: S) M Q := by
  obtain ⟨hd, rfl⟩ := hd
  exact h.st fun p e R s m args below meth c H locs cells slots ls Qf E w => lv_ishr E.1.1 E.1.2.1 hd w
theorem x_iushr {x y : Int32} (hd : DC mt.2.1 pc .iushr 1 n) (h : WA X d kc ns mt n L (vI (ushr x y) :: S) M Q) : WA X d kc ns mt pc L (vI y :: vI x :: S) M Q := by
  obtain ⟨hd, rfl⟩ := hd
  exact h.st fun p e R s m args below meth c H locs cells slots ls Qf E w => lv_iushr E.1.1 E.1.2.1 hd rfl w
theorem x_i2l {x : Int32} (hd : DC mt.2.1 pc .i2l 1 n) (h : WA X d kc ns mt n L (vJ x.toInt64 :: S) M Q) : WA X d kc ns mt pc L (vI x :: S) M Q := by
  obtain ⟨hd, rfl⟩ := hd
  exact h.st fun p e R s m args below meth c H locs cells slots ls Qf E w => lv_i2l E.1.1 E.1.2.1 hd rfl w
theorem x_l2i {x : Int64} (hd : DC mt.2.1 pc .l2i 1 n) (h : WA X d kc ns mt n L (vI x.toInt32 :: S) M Q) : WA X d kc ns mt pc L (vJ x :: S) M Q := by
  obtain ⟨hd, rfl⟩ := hd
  exact h.st fun p e R s m args below meth c H locs cells slots ls Qf E w => lv_l2i E.1.1 E.1.2.1 hd rfl w
theorem x_i2b {x : Int32} (hd : DC mt.2.1 pc .i2b 1 n) (h : WA X d kc ns mt n L (vI x.toInt8.toInt32 :: S) M Q) : WA X d kc ns mt pc L (vI x :: S) M Q := by
  obtain ⟨hd, rfl⟩ := hd
  exact h.st fun p e R s m args below meth c H locs cells slots ls Qf E w => lv_i2b E.1.1 E.1.2.1 hd rfl w
theorem x_i2c {x : Int32} (hd : DC mt.2.1 pc .i2c 1 n) (h : WA X d kc ns mt n L (vI (i2c x) :: S) M Q) : WA X d kc ns mt pc L (vI x :: S) M Q := by
  obtain ⟨hd, rfl⟩ := hd
  exact h.st fun p e R s m args below meth c H locs cells slots ls Qf E w => lv_i2c E.1.1 E.1.2.1 hd rfl w
theorem x_ladd {x y : Int64} (hd : DC mt.2.1 pc .ladd 1 n) (h : WA X d kc ns mt n L (vJ (x + y) :: S) M Q) : WA X d kc ns mt pc L (vJ y :: vJ x :: S) M Q := by
  obtain ⟨hd, rfl⟩ := hd
  exact h.st fun p e R s m args below meth c H locs cells slots ls Qf E w => lv_ladd E.1.1 E.1.2.1 hd w
theorem x_lmul {x y : Int64} (hd : DC mt.2.1 pc .lmul 1 n) (h : WA X d kc ns mt n L (vJ (x * y) :: S) M Q) : WA X d kc ns mt pc L (vJ y :: vJ x :: S) M Q := by
  obtain ⟨hd, rfl⟩ := hd
  exact h.st fun p e R s m args below meth c H locs cells slots ls Qf E w => lv_lmul E.1.1 E.1.2.1 hd w
theorem x_land {x y : Int64} (hd : DC mt.2.1 pc .land 1 n) (h : WA X d kc ns mt n L (vJ (x &&& y) :: S) M Q) : WA X d kc ns mt pc L (vJ y :: vJ x :: S) M Q := by
  obtain ⟨hd, rfl⟩ := hd
  exact h.st fun p e R s m args below meth c H locs cells slots ls Qf E w => lv_land E.1.1 E.1.2.1 hd w
theorem x_lor {x y : Int64} (hd : DC mt.2.1 pc .lor 1 n) (h : WA X d kc ns mt n L (vJ (x ||| y) :: S) M Q) : WA X d kc ns mt pc L (vJ y :: vJ x :: S) M Q := by
  obtain ⟨hd, rfl⟩ := hd
  exact h.st fun p e R s m args below meth c H locs cells slots ls Qf E w => lv_lor E.1.1 E.1.2.1 hd w
theorem x_ldiv {x y : Int64} (hd : DC mt.2.1 pc .ldiv 1 n) (hne : ¬ y = 0) (h : WA X d kc ns mt n L (vJ (x / y) :: S) M Q) : WA X d kc ns mt pc L (vJ y :: vJ x :: S) M Q := by
  obtain ⟨hd, rfl⟩ := hd
  exact h.st fun p e R s m args below meth c H locs cells slots ls Qf E w => lv_ldiv E.1.1 E.1.2.1 hd hne w
theorem x_lrem {x y : Int64} (hd : DC mt.2.1 pc .lrem 1 n) (hne : ¬ y = 0) (h : WA X d kc ns mt n L (vJ (x - x / y * y) :: S) M Q) : WA X d kc ns mt pc L (vJ y :: vJ x :: S) M Q := by
  obtain ⟨hd, rfl⟩ := hd
  exact h.st fun p e R s m args below meth c H locs cells slots ls Qf E w => lv_lrem E.1.1 E.1.2.1 hd hne w
theorem x_lushr {x : Int64} {y : Int32} (hd : DC mt.2.1 pc .lushr 1 n) (h : WA X d kc ns mt n L (vJ (lushr x y) :: S) M Q) : WA X d kc ns mt pc L (vI y :: vJ x :: S) M Q := by
  obtain ⟨hd, rfl⟩ := hd
  exact h.st fun p e R s m args below meth c H locs cells slots ls Qf E w => lv_lushr E.1.1 E.1.2.1 hd rfl w
theorem x_lshl {x : Int64} {y : Int32} (hd : DC mt.2.1 pc .lshl 1 n) (h : WA X d kc ns mt n L (vJ (lshl x y) :: S) M Q) : WA X d kc ns mt pc L (vI y :: vJ x :: S) M Q := by
  obtain ⟨hd, rfl⟩ := hd
  exact h.st fun p e R s m args below meth c H locs cells slots ls Qf E w => lv_lshl E.1.1 E.1.2.1 hd rfl w
theorem rO_cat (b0 a : Nat) : (va_rf (rO b0 a)).category = 1 := by
  unfold rO; by_cases h : a = 0 <;> simp [h, va_rf, Value.category]
def c1 : AV → Bool
  | .inr (.inr _) => false
  | _ => true
theorem c1_cat {b0 : Nat} {v : AV} (h : c1 v = true) : (cv b0 v).category = 1 := by
  rcases v with x | a | x
  · rfl
  · exact rO_cat b0 a
  · cases h
theorem x_dup {v : AV} (hd : DC mt.2.1 pc .dup 1 n) (hc : c1 v = true) (h : WA X d kc ns mt n L (v :: v :: S) M Q) : WA X d kc ns mt pc L (v :: S) M Q := by
  obtain ⟨hd, rfl⟩ := hd
  exact h.st fun p e R s m args below meth c H locs cells slots ls Qf E w => lv_dup E.1.1 E.1.2.1 hd (c1_cat hc) w
theorem x_pop {v : AV} (hd : DC mt.2.1 pc .pop 1 n) (hc : c1 v = true) (h : WA X d kc ns mt n L S M Q) : WA X d kc ns mt pc L (v :: S) M Q := by
  obtain ⟨hd, rfl⟩ := hd
  exact h.st fun p e R s m args below meth c H locs cells slots ls Qf E w => lv_pop E.1.1 E.1.2.1 hd (c1_cat hc) w
theorem x_dup2 {v u : AV} (hd : DC mt.2.1 pc .dup2 1 n) (hc : c1 v = true) (hc2 : c1 u = true) (h : WA X d kc ns mt n L (v :: u :: v :: u :: S) M Q) : WA X d kc ns mt pc L (v :: u :: S) M Q := by
  obtain ⟨hd, rfl⟩ := hd
  exact h.st fun p e R s m args below meth c H locs cells slots ls Qf E w => lv_dup2_11 E.1.1 E.1.2.1 hd (c1_cat hc) (c1_cat hc2) w
theorem x_if_eq {x : Int32} {off : Int} {t : Nat} (hd : DC mt.2.1 pc (.ifCond .eq off) 3 n) (ht : tg pc off t) (h1 : x = 0 → WA X d kc ns mt t L S M Q) (h2 : ¬ x = 0 → WA X d kc ns mt n L S M Q) : WA X d kc ns mt pc L (vI x :: S) M Q := by
  obtain ⟨hd, rfl⟩ := hd
  intro p e R s m args below meth c H locs cells slots ls E hl hR
  exact lv_if_eq E.1.1 E.1.2.1 hd ht (fun q => h1 q p e R s m args below meth c H locs cells slots ls E hl hR) (fun q => h2 q p e R s m args below meth c H locs cells slots ls E hl hR)
theorem x_if_ne {x : Int32} {off : Int} {t : Nat} (hd : DC mt.2.1 pc (.ifCond .ne off) 3 n) (ht : tg pc off t) (h1 : ¬ x = 0 → WA X d kc ns mt t L S M Q) (h2 : x = 0 → WA X d kc ns mt n L S M Q) : WA X d kc ns mt pc L (vI x :: S) M Q := by
  obtain ⟨hd, rfl⟩ := hd
  intro p e R s m args below meth c H locs cells slots ls E hl hR
  exact lv_if_ne E.1.1 E.1.2.1 hd ht (fun q => h1 q p e R s m args below meth c H locs cells slots ls E hl hR) (fun q => h2 q p e R s m args below meth c H locs cells slots ls E hl hR)
theorem x_if_lt {x : Int32} {off : Int} {t : Nat} (hd : DC mt.2.1 pc (.ifCond .lt off) 3 n) (ht : tg pc off t) (h1 : x < 0 → WA X d kc ns mt t L S M Q) (h2 : ¬ x < 0 → WA X d kc ns mt n L S M Q) : WA X d kc ns mt pc L (vI x :: S) M Q := by
  obtain ⟨hd, rfl⟩ := hd
  intro p e R s m args below meth c H locs cells slots ls E hl hR
  exact lv_if_lt E.1.1 E.1.2.1 hd ht (fun q => h1 q p e R s m args below meth c H locs cells slots ls E hl hR) (fun q => h2 q p e R s m args below meth c H locs cells slots ls E hl hR)
theorem x_if_ge {x : Int32} {off : Int} {t : Nat} (hd : DC mt.2.1 pc (.ifCond .ge off) 3 n) (ht : tg pc off t) (h1 : 0 ≤ x → WA X d kc ns mt t L S M Q) (h2 : ¬ 0 ≤ x → WA X d kc ns mt n L S M Q) : WA X d kc ns mt pc L (vI x :: S) M Q := by
  obtain ⟨hd, rfl⟩ := hd
  intro p e R s m args below meth c H locs cells slots ls E hl hR
  exact lv_if_ge E.1.1 E.1.2.1 hd ht (fun q => h1 q p e R s m args below meth c H locs cells slots ls E hl hR) (fun q => h2 q p e R s m args below meth c H locs cells slots ls E hl hR)
theorem x_if_gt {x : Int32} {off : Int} {t : Nat} (hd : DC mt.2.1 pc (.ifCond .gt off) 3 n) (ht : tg pc off t) (h1 : 0 < x → WA X d kc ns mt t L S M Q) (h2 : ¬ 0 < x → WA X d kc ns mt n L S M Q) : WA X d kc ns mt pc L (vI x :: S) M Q := by
  obtain ⟨hd, rfl⟩ := hd
  intro p e R s m args below meth c H locs cells slots ls E hl hR
  exact lv_if_gt E.1.1 E.1.2.1 hd ht (fun q => h1 q p e R s m args below meth c H locs cells slots ls E hl hR) (fun q => h2 q p e R s m args below meth c H locs cells slots ls E hl hR)
theorem x_if_le {x : Int32} {off : Int} {t : Nat} (hd : DC mt.2.1 pc (.ifCond .le off) 3 n) (ht : tg pc off t) (h1 : x ≤ 0 → WA X d kc ns mt t L S M Q) (h2 : ¬ x ≤ 0 → WA X d kc ns mt n L S M Q) : WA X d kc ns mt pc L (vI x :: S) M Q := by
  obtain ⟨hd, rfl⟩ := hd
  intro p e R s m args below meth c H locs cells slots ls E hl hR
  exact lv_if_le E.1.1 E.1.2.1 hd ht (fun q => h1 q p e R s m args below meth c H locs cells slots ls E hl hR) (fun q => h2 q p e R s m args below meth c H locs cells slots ls E hl hR)
theorem x_icmp_eq {x y : Int32} {off : Int} {t : Nat} (hd : DC mt.2.1 pc (.if_icmp .eq off) 3 n) (ht : tg pc off t) (h1 : x = y → WA X d kc ns mt t L S M Q) (h2 : ¬ x = y → WA X d kc ns mt n L S M Q) : WA X d kc ns mt pc L (vI y :: vI x :: S) M Q := by
  obtain ⟨hd, rfl⟩ := hd
  intro p e R s m args below meth c H locs cells slots ls E hl hR
  exact lv_icmp_eq E.1.1 E.1.2.1 hd ht (fun q => h1 q p e R s m args below meth c H locs cells slots ls E hl hR) (fun q => h2 q p e R s m args below meth c H locs cells slots ls E hl hR)
theorem x_icmp_ne {x y : Int32} {off : Int} {t : Nat} (hd : DC mt.2.1 pc (.if_icmp .ne off) 3 n) (ht : tg pc off t) (h1 : ¬ x = y → WA X d kc ns mt t L S M Q) (h2 : x = y → WA X d kc ns mt n L S M Q) : WA X d kc ns mt pc L (vI y :: vI x :: S) M Q := by
  obtain ⟨hd, rfl⟩ := hd
  intro p e R s m args below meth c H locs cells slots ls E hl hR
  exact lv_icmp_ne E.1.1 E.1.2.1 hd ht (fun q => h1 q p e R s m args below meth c H locs cells slots ls E hl hR) (fun q => h2 q p e R s m args below meth c H locs cells slots ls E hl hR)
theorem x_icmp_lt {x y : Int32} {off : Int} {t : Nat} (hd : DC mt.2.1 pc (.if_icmp .lt off) 3 n) (ht : tg pc off t) (h1 : x < y → WA X d kc ns mt t L S M Q) (h2 : ¬ x < y → WA X d kc ns mt n L S M Q) : WA X d kc ns mt pc L (vI y :: vI x :: S) M Q := by
  obtain ⟨hd, rfl⟩ := hd
  intro p e R s m args below meth c H locs cells slots ls E hl hR
  exact lv_icmp_lt E.1.1 E.1.2.1 hd ht (fun q => h1 q p e R s m args below meth c H locs cells slots ls E hl hR) (fun q => h2 q p e R s m args below meth c H locs cells slots ls E hl hR)
theorem x_icmp_ge {x y : Int32} {off : Int} {t : Nat} (hd : DC mt.2.1 pc (.if_icmp .ge off) 3 n) (ht : tg pc off t) (h1 : y ≤ x → WA X d kc ns mt t L S M Q) (h2 : ¬ y ≤ x → WA X d kc ns mt n L S M Q) : WA X d kc ns mt pc L (vI y :: vI x :: S) M Q := by
  obtain ⟨hd, rfl⟩ := hd
  intro p e R s m args below meth c H locs cells slots ls E hl hR
  exact lv_icmp_ge E.1.1 E.1.2.1 hd ht (fun q => h1 q p e R s m args below meth c H locs cells slots ls E hl hR) (fun q => h2 q p e R s m args below meth c H locs cells slots ls E hl hR)
theorem x_icmp_gt {x y : Int32} {off : Int} {t : Nat} (hd : DC mt.2.1 pc (.if_icmp .gt off) 3 n) (ht : tg pc off t) (h1 : y < x → WA X d kc ns mt t L S M Q) (h2 : ¬ y < x → WA X d kc ns mt n L S M Q) : WA X d kc ns mt pc L (vI y :: vI x :: S) M Q := by
  obtain ⟨hd, rfl⟩ := hd
  intro p e R s m args below meth c H locs cells slots ls E hl hR
  exact lv_icmp_gt E.1.1 E.1.2.1 hd ht (fun q => h1 q p e R s m args below meth c H locs cells slots ls E hl hR) (fun q => h2 q p e R s m args below meth c H locs cells slots ls E hl hR)
theorem x_icmp_le {x y : Int32} {off : Int} {t : Nat} (hd : DC mt.2.1 pc (.if_icmp .le off) 3 n) (ht : tg pc off t) (h1 : x ≤ y → WA X d kc ns mt t L S M Q) (h2 : ¬ x ≤ y → WA X d kc ns mt n L S M Q) : WA X d kc ns mt pc L (vI y :: vI x :: S) M Q := by
  obtain ⟨hd, rfl⟩ := hd
  intro p e R s m args below meth c H locs cells slots ls E hl hR
  exact lv_icmp_le E.1.1 E.1.2.1 hd ht (fun q => h1 q p e R s m args below meth c H locs cells slots ls E hl hR) (fun q => h2 q p e R s m args below meth c H locs cells slots ls E hl hR)
theorem x_goto {off : Int} {t : Nat} (hd : DC mt.2.1 pc (.goto off) 3 n) (ht : tg pc off t) (h : WA X d kc ns mt t L S M Q) : WA X d kc ns mt pc L S M Q := by
  obtain ⟨hd, rfl⟩ := hd
  exact h.st fun p e R s m args below meth c H locs cells slots ls Qf E w => lv_goto E.1.1 E.1.2.1 hd ht w
theorem x_ifnull {a : Nat} {off : Int} {t : Nat} (hd : DC mt.2.1 pc (.ifnull off) 3 n) (ht : tg pc off t) (h1 : a = 0 → WA X d kc ns mt t L S M Q) (h2 : ¬ a = 0 → WA X d kc ns mt n L S M Q) : WA X d kc ns mt pc L (vR a :: S) M Q := by
  obtain ⟨hd, rfl⟩ := hd
  by_cases h0 : a = 0
  · subst h0
    exact (h1 rfl).st fun p e R s m args below meth c H locs cells slots ls Qf E w => lv_ifnullN E.1.1 E.1.2.1 hd ht w
  · exact (h2 h0).st fun p e R s m args below meth c H locs cells slots ls Qf E w => by
      show W _ _ _ _ _ _ _ _ _ _ _ _ _ _ _ (F0 m pc ls (va_rf (rO X.2.2.2 a) :: S.map (cv X.2.2.2)))
      rw [rO_pos (by omega)]
      exact lv_ifnull E.1.1 E.1.2.1 hd w
theorem x_ifnonnull {a : Nat} {off : Int} {t : Nat} (hd : DC mt.2.1 pc (.ifnonnull off) 3 n) (ht : tg pc off t) (h1 : ¬ a = 0 → WA X d kc ns mt t L S M Q) (h2 : a = 0 → WA X d kc ns mt n L S M Q) : WA X d kc ns mt pc L (vR a :: S) M Q := by
  obtain ⟨hd, rfl⟩ := hd
  by_cases h0 : a = 0
  · subst h0
    exact (h2 rfl).st fun p e R s m args below meth c H locs cells slots ls Qf E w => lv_ifnonnullN E.1.1 E.1.2.1 hd w
  · exact (h1 h0).st fun p e R s m args below meth c H locs cells slots ls Qf E w => by
      show W _ _ _ _ _ _ _ _ _ _ _ _ _ _ _ (F0 m pc ls (va_rf (rO X.2.2.2 a) :: S.map (cv X.2.2.2)))
      rw [rO_pos (by omega)]
      exact lv_ifnonnull E.1.1 E.1.2.1 hd ht w
theorem x_acmp_ne {a b : Nat} {off : Int} {t : Nat} (hd : DC mt.2.1 pc (.if_acmp .ne off) 3 n) (ht : tg pc off t) (h1 : ¬ a = b → WA X d kc ns mt t L S M Q) (h2 : a = b → WA X d kc ns mt n L S M Q) : WA X d kc ns mt pc L (vR b :: vR a :: S) M Q := by
  obtain ⟨hd, rfl⟩ := hd
  intro p e R s m args below meth c H locs cells slots ls E hl hR
  exact lv_acmp_ne E.1.1 E.1.2.1 hd ht (fun q => h1 (fun z => q (by rw [z])) p e R s m args below meth c H locs cells slots ls E hl hR) (fun q => h2 (rO_inj.mp q) p e R s m args below meth c H locs cells slots ls E hl hR)
theorem x_table {x : Int32} {dflt lo hi : Int} {offs : Array Int} {len : Nat} (hd : DC mt.2.1 pc (.tableswitch dflt lo hi offs) len n) {td : Nat} (ht : tg pc dflt td) (h1 : (x.toInt < lo ∨ hi < x.toInt) → WA X d kc ns mt td L S M Q) (h2 : ∀ k : Nat, x.toInt = lo + k → ¬ hi < lo + k → ∃ off t, offs[k]? = some off ∧ tg pc off t ∧ WA X d kc ns mt t L S M Q) : WA X d kc ns mt pc L (vI x :: S) M Q := by
  obtain ⟨hd, rfl⟩ := hd
  intro p e R s m args below meth c H locs cells slots ls E hl hR
  by_cases h : x.toInt < lo ∨ hi < x.toInt
  · exact lv_tableOut E.1.1 E.1.2.1 hd h ht (h1 h p e R s m args below meth c H locs cells slots ls E hl hR)
  · obtain ⟨off, t, ho, ht2, hw⟩ := h2 (x.toInt - lo).toNat (by omega) (by omega)
    exact lv_tableIn E.1.1 E.1.2.1 hd (fun z => h (Or.inl z)) (fun z => h (Or.inr z)) ho ht2 (hw p e R s m args below meth c H locs cells slots ls E hl hR)
theorem x_lookup {x : Int32} {dflt : Int} {ps : Array (Int × Int)} {len : Nat} (hd : DC mt.2.1 pc (.lookupswitch dflt ps) len n) (hp : (ps.toList.zip (ps.toList.drop 1)).all (fun (a, next) => a.1 < next.1) = true) (h : ∃ t, tg pc (Op.lookupswitch.offset ps.toList dflt x.toInt) t ∧ WA X d kc ns mt t L S M Q) : WA X d kc ns mt pc L (vI x :: S) M Q := by
  obtain ⟨hd, rfl⟩ := hd
  obtain ⟨t, ht, hw⟩ := h
  intro p e R s m args below meth c H locs cells slots ls E hl hR
  exact lv_lookup E.1.1 E.1.2.1 hd hp rfl ht (hw p e R s m args below meth c H locs cells slots ls E hl hR)
theorem x_iload_n {k : Fin 4} {i : Nat} {x : Int32} (hd : DC mt.2.1 pc (.iload_n k) 1 n) (hi : (k : Nat) = i) (hl : L[i]? = some (some (vI x))) (h : WA X d kc ns mt n L (vI x :: S) M Q) : WA X d kc ns mt pc L S M Q := by
  obtain ⟨hd, rfl⟩ := hd
  intro p e R s m args below meth c H locs cells slots ls E hL hR
  exact lv_iload_n E.1.1 E.1.2.1 hd hi (hL.2.2 i _ hl) (h p e R s m args below meth c H locs cells slots ls E hL hR)
theorem x_iload {i : Nat} {x : Int32} (hd : DC mt.2.1 pc (.iload i) 2 n) (hl : L[i]? = some (some (vI x))) (h : WA X d kc ns mt n L (vI x :: S) M Q) : WA X d kc ns mt pc L S M Q := by
  obtain ⟨hd, rfl⟩ := hd
  intro p e R s m args below meth c H locs cells slots ls E hL hR
  exact lv_iload E.1.1 E.1.2.1 hd (hL.2.2 i _ hl) (h p e R s m args below meth c H locs cells slots ls E hL hR)
theorem x_lload_n {k : Fin 4} {i : Nat} {x : Int64} (hd : DC mt.2.1 pc (.lload_n k) 1 n) (hi : (k : Nat) = i) (hl : L[i]? = some (some (vJ x))) (h : WA X d kc ns mt n L (vJ x :: S) M Q) : WA X d kc ns mt pc L S M Q := by
  obtain ⟨hd, rfl⟩ := hd
  intro p e R s m args below meth c H locs cells slots ls E hL hR
  exact lv_lload_n E.1.1 E.1.2.1 hd hi (hL.2.2 i _ hl) (h p e R s m args below meth c H locs cells slots ls E hL hR)
theorem x_lload {i : Nat} {x : Int64} (hd : DC mt.2.1 pc (.lload i) 2 n) (hl : L[i]? = some (some (vJ x))) (h : WA X d kc ns mt n L (vJ x :: S) M Q) : WA X d kc ns mt pc L S M Q := by
  obtain ⟨hd, rfl⟩ := hd
  intro p e R s m args below meth c H locs cells slots ls E hL hR
  exact lv_lload E.1.1 E.1.2.1 hd (hL.2.2 i _ hl) (h p e R s m args below meth c H locs cells slots ls E hL hR)
theorem x_aload_n {k : Fin 4} {i : Nat} {a : Nat} (hd : DC mt.2.1 pc (.aload_n k) 1 n) (hi : (k : Nat) = i) (hl : L[i]? = some (some (vR a))) (h : WA X d kc ns mt n L (vR a :: S) M Q) : WA X d kc ns mt pc L S M Q := by
  obtain ⟨hd, rfl⟩ := hd
  intro p e R s m args below meth c H locs cells slots ls E hL hR
  have h1 := hL.2.2 i _ hl
  have h2 := h p e R s m args below meth c H locs cells slots ls E hL hR
  by_cases h0 : a = 0
  · subst h0
    exact lv_aload_nN E.1.1 E.1.2.1 hd hi h1 h2
  · have e1 : cv X.2.2.2 (vR a) = .ref (X.2.2.2 + a) := rO_pos (by omega)
    rw [e1] at h1
    rw [List.map_cons, e1] at h2
    exact lv_aload_n E.1.1 E.1.2.1 hd hi h1 h2
theorem x_aload {i : Nat} {a : Nat} (hd : DC mt.2.1 pc (.aload i) 2 n) (hl : L[i]? = some (some (vR a))) (h : WA X d kc ns mt n L (vR a :: S) M Q) : WA X d kc ns mt pc L S M Q := by
  obtain ⟨hd, rfl⟩ := hd
  intro p e R s m args below meth c H locs cells slots ls E hL hR
  have h1 := hL.2.2 i _ hl
  have h2 := h p e R s m args below meth c H locs cells slots ls E hL hR
  by_cases h0 : a = 0
  · subst h0
    exact lv_aloadN E.1.1 E.1.2.1 hd h1 h2
  · have e1 : cv X.2.2.2 (vR a) = .ref (X.2.2.2 + a) := rO_pos (by omega)
    rw [e1] at h1
    rw [List.map_cons, e1] at h2
    exact lv_aload E.1.1 E.1.2.1 hd h1 h2
/-- the listed locals, as the kit has them -/
def lvs (b0 : Nat) (L : List (Option AV)) : List (Nat × Value) := (List.range L.length).filterMap (fun i => (L[i]?.bind id).map (fun v => (i, cv b0 v)))
theorem lvs_has {b0 : Nat} {ls : Array Slot} {k : Nat} {L : List (Option AV)} (h : hasL b0 ls k L) : lv_has ls k (lvs b0 L) := by
  refine ⟨h.1, h.2.1, fun q hq => ?_⟩
  obtain ⟨i, hi, he⟩ := List.mem_filterMap.mp hq
  cases hv : L[i]?.bind id with
  | none => rw [hv] at he; cases he
  | some v =>
    rw [hv] at he
    cases he
    refine h.2.2 i v ?_
    cases hw : L[i]? with
    | none => rw [hw] at hv; cases hv
    | some w => rw [hw] at hv; exact congrArg some hv
theorem lvs_mem {b0 : Nat} {L : List (Option AV)} {i : Nat} {v : AV} (h : L[i]? = some (some v)) : (i, cv b0 v) ∈ lvs b0 L := by
  refine List.mem_filterMap.mpr ⟨i, List.mem_range.mpr (List.getElem?_eq_some_iff.mp h).1, ?_⟩
  rw [h]; rfl
/-- no long stands at the place ahead of i -/
def okS (L : List (Option AV)) (i : Nat) : Bool := match i with
  | 0 => true
  | i + 1 => match L[i]? with
    | some (some (.inr (.inr _))) => false
    | _ => true
theorem okS_cat {b0 : Nat} {L : List (Option AV)} {i j : Nat} {v : AV} (h : okS L i = true) (hj : L[j]? = some (some v)) (e : j + 1 = i) : (cv b0 v).category = 1 := by
  subst e
  simp only [okS, hj] at h
  rcases v with x | a | x
  · rfl
  · exact rO_cat b0 a
  · cases h
theorem hasL_set {b0 : Nat} {ls' : Array Slot} {k i : Nat} {L : List (Option AV)} {v : AV} (ho : okS L i = true) (h : lv_has ls' k ((i, cv b0 v) :: (lvs b0 L).filter (fun q => !(q.1 == i) && !(q.1 + 1 == i && q.2.category == 2)))) : hasL b0 ls' k (L.set i (some v)) := by
  refine ⟨h.1, h.2.1, fun j w hj => ?_⟩
  rw [List.getElem?_set] at hj
  by_cases e : i = j
  · subst e
    simp only [if_true] at hj
    split at hj
    · cases hj
      exact h.2.2 (i, cv b0 v) List.mem_cons_self
    · cases hj
  · rw [if_neg e] at hj
    refine h.2.2 (j, cv b0 w) (List.mem_cons_of_mem _ (List.mem_filter.mpr ⟨lvs_mem hj, ?_⟩))
    simp only [Bool.and_eq_true, Bool.not_eq_true', beq_eq_false_iff_ne, Bool.and_eq_false_iff]
    refine ⟨fun z => e z.symm, ?_⟩
    by_cases e2 : j + 1 = i
    · right
      rw [okS_cat ho hj e2]; decide
    · exact Or.inl e2
theorem hasL_set2 {b0 : Nat} {ls' : Array Slot} {k i : Nat} {L : List (Option AV)} {v : AV} (ho : okS L i = true) (h : lv_has ls' k ((i, cv b0 v) :: (lvs b0 L).filter (fun q => !(q.1 == i) && (!(q.1 == i + 1) && !(q.1 + 1 == i && q.2.category == 2))))) : hasL b0 ls' k ((L.set i (some v)).set (i + 1) none) := by
  refine ⟨h.1, h.2.1, fun j w hj => ?_⟩
  rw [List.getElem?_set] at hj
  by_cases e1 : i + 1 = j
  · rw [if_pos e1] at hj
    split at hj <;> cases hj
  rw [if_neg e1, List.getElem?_set] at hj
  by_cases e : i = j
  · subst e
    simp only [if_true] at hj
    split at hj
    · cases hj
      exact h.2.2 (i, cv b0 v) List.mem_cons_self
    · cases hj
  · rw [if_neg e] at hj
    refine h.2.2 (j, cv b0 w) (List.mem_cons_of_mem _ (List.mem_filter.mpr ⟨lvs_mem hj, ?_⟩))
    simp only [Bool.and_eq_true, Bool.not_eq_true', beq_eq_false_iff_ne, Bool.and_eq_false_iff]
    refine ⟨fun z => e z.symm, fun z => e1 z.symm, ?_⟩
    by_cases e2 : j + 1 = i
    · right
      rw [okS_cat ho hj e2]; decide
    · exact Or.inl e2
theorem x_istore_n {k : Fin 4} {i : Nat} {x : Int32} (hd : DC mt.2.1 pc (.istore_n k) 1 n) (hi : (k : Nat) = i) (ho : okS L i = true) (hn : i < mt.2.2.1) (hL : L.set i (some (vI x)) = L') (h : WA X d kc ns mt n L' S M Q) : WA X d kc ns mt pc L (vI x :: S) M Q := by
  obtain ⟨hd, rfl⟩ := hd
  subst hL
  intro p e R s m args below meth c H locs cells slots ls E hl hR
  exact lv_istore_n E.1.1 E.1.2.1 hd hi (lvs_has hl) hn rfl fun ls' h' => h p e R s m args below meth c H locs cells slots ls' E (hasL_set (v := vI x) ho h') hR
theorem x_istore {i : Nat} {x : Int32} (hd : DC mt.2.1 pc (.istore i) 2 n) (ho : okS L i = true) (hn : i < mt.2.2.1) (hL : L.set i (some (vI x)) = L') (h : WA X d kc ns mt n L' S M Q) : WA X d kc ns mt pc L (vI x :: S) M Q := by
  obtain ⟨hd, rfl⟩ := hd
  subst hL
  intro p e R s m args below meth c H locs cells slots ls E hl hR
  exact lv_istore E.1.1 E.1.2.1 hd (lvs_has hl) hn rfl fun ls' h' => h p e R s m args below meth c H locs cells slots ls' E (hasL_set (v := vI x) ho h') hR
theorem x_lstore_n {k : Fin 4} {i : Nat} {x : Int64} (hd : DC mt.2.1 pc (.lstore_n k) 1 n) (hi : (k : Nat) = i) (ho : okS L i = true) (hn : i + 1 < mt.2.2.1) (hL : (L.set i (some (vJ x))).set (i + 1) none = L') (h : WA X d kc ns mt n L' S M Q) : WA X d kc ns mt pc L (vJ x :: S) M Q := by
  obtain ⟨hd, rfl⟩ := hd
  subst hL
  intro p e R s m args below meth c H locs cells slots ls E hl hR
  exact lv_lstore_n E.1.1 E.1.2.1 hd hi (lvs_has hl) hn rfl fun ls' h' => h p e R s m args below meth c H locs cells slots ls' E (hasL_set2 (v := vJ x) ho h') hR
theorem x_lstore {i : Nat} {x : Int64} (hd : DC mt.2.1 pc (.lstore i) 2 n) (ho : okS L i = true) (hn : i + 1 < mt.2.2.1) (hL : (L.set i (some (vJ x))).set (i + 1) none = L') (h : WA X d kc ns mt n L' S M Q) : WA X d kc ns mt pc L (vJ x :: S) M Q := by
  obtain ⟨hd, rfl⟩ := hd
  subst hL
  intro p e R s m args below meth c H locs cells slots ls E hl hR
  exact lv_lstore E.1.1 E.1.2.1 hd (lvs_has hl) hn rfl fun ls' h' => h p e R s m args below meth c H locs cells slots ls' E (hasL_set2 (v := vJ x) ho h') hR
theorem x_astore_n {k : Fin 4} {i a : Nat} (hd : DC mt.2.1 pc (.astore_n k) 1 n) (hi : (k : Nat) = i) (ho : okS L i = true) (hn : i < mt.2.2.1) (hL : L.set i (some (vR a)) = L') (h : WA X d kc ns mt n L' S M Q) : WA X d kc ns mt pc L (vR a :: S) M Q := by
  obtain ⟨hd, rfl⟩ := hd
  subst hL
  intro p e R s m args below meth c H locs cells slots ls E hl hR
  by_cases h0 : a = 0
  · subst h0
    exact lv_astore_nN E.1.1 E.1.2.1 hd hi (lvs_has hl) hn rfl fun ls' h' => h p e R s m args below meth c H locs cells slots ls' E (hasL_set (v := vR 0) ho h') hR
  · have e1 : cv X.2.2.2 (vR a) = .ref (X.2.2.2 + a) := rO_pos (by omega)
    rw [List.map_cons, e1]
    exact lv_astore_n E.1.1 E.1.2.1 hd hi (lvs_has hl) hn rfl fun ls' h' => h p e R s m args below meth c H locs cells slots ls' E (hasL_set (v := vR a) ho (by rw [e1]; exact h')) hR
theorem x_astore {i a : Nat} (hd : DC mt.2.1 pc (.astore i) 2 n) (ho : okS L i = true) (hn : i < mt.2.2.1) (hL : L.set i (some (vR a)) = L') (h : WA X d kc ns mt n L' S M Q) : WA X d kc ns mt pc L (vR a :: S) M Q := by
  obtain ⟨hd, rfl⟩ := hd
  subst hL
  intro p e R s m args below meth c H locs cells slots ls E hl hR
  by_cases h0 : a = 0
  · subst h0
    exact lv_astoreN E.1.1 E.1.2.1 hd (lvs_has hl) hn rfl fun ls' h' => h p e R s m args below meth c H locs cells slots ls' E (hasL_set (v := vR 0) ho h') hR
  · have e1 : cv X.2.2.2 (vR a) = .ref (X.2.2.2 + a) := rO_pos (by omega)
    rw [List.map_cons, e1]
    exact lv_astore E.1.1 E.1.2.1 hd (lvs_has hl) hn rfl fun ls' h' => h p e R s m args below meth c H locs cells slots ls' E (hasL_set (v := vR a) ho (by rw [e1]; exact h')) hR
theorem x_iinc {i : Nat} {k : Int} {x v : Int32} (hd : DC mt.2.1 pc (.iinc i k) 3 n) (hx : L[i]? = some (some (vI x))) (hv : x + Int32.ofInt k = v) (ho : okS L i = true) (hn : i < mt.2.2.1) (hL : L.set i (some (vI v)) = L') (h : WA X d kc ns mt n L' S M Q) : WA X d kc ns mt pc L S M Q := by
  obtain ⟨hd, rfl⟩ := hd
  subst hL
  intro p e R s m args below meth c H locs cells slots ls E hl hR
  obtain ⟨j, hj⟩ := List.getElem?_of_mem (lvs_mem (b0 := X.2.2.2) hx)
  exact lv_iinc E.1.1 E.1.2.1 hd (lvs_has hl) hj hv hn rfl fun ls' h' => h p e R s m args below meth c H locs cells slots ls' E (hasL_set (v := vI v) ho h') hR
/-- fewer locals are known -/
theorem x_forget (hf : ∀ (i : Nat) (v : AV), L'[i]? = some (some v) → L[i]? = some (some v)) (h : WA X d kc ns mt pc L' S M Q) : WA X d kc ns mt pc L S M Q :=
  fun p e R s m args below meth c H locs cells slots ls E hl hR => h p e R s m args below meth c H locs cells slots ls E ⟨hl.1, hl.2.1, fun i v hv => hl.2.2 i v (hf i v hv)⟩ hR
/-! returns -/
theorem x_ireturn {ty : FieldType} {v : Int32} (hd : DC mt.2.1 pc .ireturn 1 n) (hr : mt.2.2.2 = some ty) (hn : narrow ty (.int v) = .int v) (h : Q (some (vI v)) M) : WA X d kc ns mt pc L [vI v] M Q := by
  obtain ⟨hd, rfl⟩ := hd
  intro p e R s m args below meth c H locs cells slots ls E hl hR
  refine W.widen (k := R.cells) (n := R.slots) (by have := E.2.2.2.1; omega) (by have := E.2.2.2.2.1; omega) ?_
  exact W.zret E.1.1 E.1.2.1 (E.1.2.2.1.trans hr) hn (fun t ht hW => ⟨⟨some (vI v), M, rfl, h, by rw [ht]; exact hR⟩, E.2.2.2.2.2.2.F ht⟩) E.2.2.2.2.2.2.2.2 hd E.1.2.2.2.2.2.1
theorem x_return (hd : DC mt.2.1 pc .return_ 1 n) (hr : mt.2.2.2 = none) (h : Q none M) : WA X d kc ns mt pc L [] M Q := by
  obtain ⟨hd, rfl⟩ := hd
  intro p e R s m args below meth c H locs cells slots ls E hl hR
  refine W.widen (k := R.cells) (n := R.slots) (by have := E.2.2.2.1; omega) (by have := E.2.2.2.2.1; omega) ?_
  exact W.vret E.1.1 E.1.2.1 (E.1.2.2.1.trans hr) (fun t ht hW => ⟨⟨none, M, rfl, h, by rw [ht]; exact hR⟩, E.2.2.2.2.2.2.F ht⟩) E.2.2.2.2.2.2.2.2 hd E.1.2.2.2.2.2.1
theorem x_areturn {rt : FieldType} {a : Nat} (hd : DC mt.2.1 pc .areturn 1 n) (hr : mt.2.2.2 = some rt) (hrt : (∃ k, rt = .object k) ∨ ∃ t, rt = .array t) (h : Q (some (vR a)) M) : WA X d kc ns mt pc L [vR a] M Q := by
  obtain ⟨hd, rfl⟩ := hd
  intro p e R s m args below meth c H locs cells slots ls E hl hR
  refine W.widen (k := R.cells) (n := R.slots) (by have := E.2.2.2.1; omega) (by have := E.2.2.2.2.1; omega) ?_
  refine W.aret (v := cv X.2.2.2 (vR a)) E.1.1 E.1.2.1 (E.1.2.2.1.trans hr) hrt ?_ (fun t ht hW => ⟨⟨some (vR a), M, rfl, h, by rw [ht]; exact hR⟩, E.2.2.2.2.2.2.F ht⟩) E.2.2.2.2.2.2.2.2 hd E.1.2.2.2.2.2.1
  by_cases h0 : a = 0
  · left; subst h0; rfl
  · right; exact ⟨_, rO_pos (by omega)⟩
end ROWS
