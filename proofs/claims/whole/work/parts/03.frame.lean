/-! MEMORY: what has been made since the law's start; a cell's address is counted from there, 0 is null -/
abbrev AV : Type := Int32 ⊕ Nat ⊕ Int64
abbrev vI (x : Int32) : AV := .inl x
abbrev vR (a : Nat) : AV := .inr (.inl a)
abbrev vJ (x : Int64) : AV := .inr (.inr x)
def rO (b0 a : Nat) : Option Nat := if a = 0 then none else some (b0 + a)
def cv (b0 : Nat) : AV → Value
  | .inl x => .int x
  | .inr (.inl a) => va_rf (rO b0 a)
  | .inr (.inr x) => .long x
abbrev Mem : Type := (Nat → Nat → Int32) × (Nat → Nat → Nat) × (Nat → Nat → Int64) × List (Nat × Nat)
def mI (M : Mem) (a i : Nat) : Int32 := M.1 a i
def mR (M : Mem) (a i : Nat) : Nat := M.2.1 a i
def mJ (M : Mem) (a i : Nat) : Int64 := M.2.2.1 a i
def mS (M : Mem) : List (Nat × Nat) := M.2.2.2
def up2 {α : Type} (f : Nat → Nat → α) (a i : Nat) (v : α) : Nat → Nat → α := fun b j => if b = a ∧ j = i then v else f b j
def sI (M : Mem) (a i : Nat) (v : Int32) : Mem := (up2 M.1 a i v, M.2.1, M.2.2.1, M.2.2.2)
def sR (M : Mem) (a i : Nat) (v : Nat) : Mem := (M.1, up2 M.2.1 a i v, M.2.2.1, M.2.2.2)
def sJ (M : Mem) (a i : Nat) (v : Int64) : Mem := (M.1, M.2.1, up2 M.2.2.1 a i v, M.2.2.2)
/-- a new cell of kind k with n places, all 0 -/
def nw (M : Mem) (k n : Nat) : Mem := (fun b j => if b = M.2.2.2.length then 0 else M.1 b j, fun b j => if b = M.2.2.2.length then 0 else M.2.1 b j, fun b j => if b = M.2.2.2.length then 0 else M.2.2.1 b j, M.2.2.2 ++ [(k, n)])
/-- a copy of the int array a -/
def nwc (M : Mem) (a n : Nat) : Mem := (fun b j => if b = M.2.2.2.length then M.1 a j else M.1 b j, fun b j => if b = M.2.2.2.length then 0 else M.2.1 b j, fun b j => if b = M.2.2.2.length then 0 else M.2.2.1 b j, M.2.2.2 ++ [(14, n)])
def isK (M : Mem) (a k n : Nat) : Prop := M.2.2.2[a]? = some (k, n)
def nx (M : Mem) : Nat := M.2.2.2.length
def fv (b0 : Nat) (M : Mem) (a ci : Nat) : List Value := (List.range (NC ci)).map (fun k => if rfC ci k then va_rf (rO b0 (M.2.1 a k)) else .int (M.1 a k))
def cE (b0 : Nat) (cy : Nat → ClassId) (M : Mem) (a : Nat) : va_E := match M.2.2.2[a]? with
  | none => .inr (0, [])
  | some (k, n) => if k < 12 then .inr (k, fv b0 M a k) else if k < 16 then .inl (cy k, n, .inl (M.1 a)) else if k < 20 then .inl (cy k, n, .inr (.inr (.inr (.inr (fun i => rO b0 (M.2.1 a i)))))) else if k = 20 then .inl (cy k, n, .inr (.inl (M.2.2.1 a))) else .inr (12, [])
def wsM (b0 : Nat) (cy : Nat → ClassId) (M : Mem) : va_W := (List.range (M.2.2.2.length - 1)).map (fun j => (b0 + (j + 1), cE b0 cy M (j + 1)))
abbrev Cx : Type := Launch × va_G × (Nat → ClassId) × Nat
def tysX (X : Cx) : List (ClassId × FieldType) := [(X.2.2.1 12, .byte), (X.2.2.1 13, .char), (X.2.2.1 14, .int), (X.2.2.1 15, .boolean), (X.2.2.1 16, .object (nmC 0)), (X.2.2.1 17, .object (nmC 1)), (X.2.2.1 18, .object (nmC 3)), (X.2.2.1 19, .object (nmC 6)), (X.2.2.1 20, .long)]
def Rl (X : Cx) (M : Mem) (H : Heap) : Prop := H.size = X.2.2.2 + M.2.2.2.length ∧ M.2.2.2[0]? = some (99, 0) ∧ va_P X.2.1 cls (wsM X.2.2.2 X.2.2.1 M) H
def AX (X : Cx) : Nat → Prop := fun q => X.2.2.2 < q
/-- the words that hold on under warmer tables -/
def okw : Cond → Bool
  | .fieldLinkNest .. => true
  | .methodLinkNest .. => true
  | .castable .. => true
  | .declares .. => true
  | .arrayOver (.object _) => true
  | w => goodWord w
def TB (U : State) : Prop := ∀ w ∈ lw_tbl, okw w = true → ∀ args : Array Value, w.before args U = true
/-- what stands of the tables and of the heap that was there before -/
def KX (X : Cx) (U : State) : Prop := TB U ∧ va_K X.2.1 cls (tysX X) U ∧ X.2.2.2 < U.heap.size ∧
  (∃ w : Nat, va_Z "TwoPencils" "WORTHS" "[I" (.ref w) (AX X) U U.heap ∧ va_T .int w 12 (fun j => .int (([1, -1, 0, 0, 1, 0, 0, 0, 0, -1, 0, 0] : List Int32).getD j 0)) (AX X) U U.heap) ∧
  vx_Zq Bundle.tN "UNASSIGNED_STACK" Bundle.steD (AX X) U U.heap ∧ vx_Zq Bundle.tN "SUPPRESSED_SENTINEL" Bundle.listD (AX X) U U.heap
/-- a method: name, bytes, locals, answer -/
abbrev MT : Type := MethodName × ByteArray × Nat × Option FieldType
def FX (mt : MT) (p : Program) (s : State) (m : MethodId) (meth : Method) (c : Code) : Prop := p.tables.exec = Jvm.exec ∧ c.code = mt.2.1 ∧ meth.sig.returnType = mt.2.2.2 ∧ c.maxLocals = mt.2.2.1 ∧ s.vm.findClass mt.1.cls = some m.cls ∧ meth.locks = false ∧ meth.name = mt.1.name
def hasL (b0 : Nat) (ls : Array Slot) (n : Nat) (L : List (Option AV)) : Prop := ls.size = n ∧ lv_wf ls ∧ ∀ (i : Nat) (v : AV), L[i]? = some (some v) → ls[i]? = some (.val (cv b0 v))
def QX (X : Cx) (Q : Option AV → Mem → Prop) : Array Value → State → Outcome → State → Prop := fun _ st oc t => (∃ (r : Option AV) (M : Mem), oc = .returned (r.map (cv X.2.2.2)) ∧ Q r M ∧ Rl X M t.heap) ∧ va_F (AX X) st t
/-- the premises of a walk, all that stays the same along it -/
def EX (X : Cx) (d kc ns : Nat) (mt : MT) (p : Program) (R : Room) (s : State) (m : MethodId) (meth : Method) (c : Code) (H : Heap) (locs : List Loc) (cells slots : Nat) : Prop :=
  FX mt p s m meth c ∧ d ≤ R.frames ∧ 64 * d ≤ R.locals ∧ cells + kc ≤ R.cells ∧ slots + ns ≤ R.slots ∧ KX X s ∧ va_S (AX X) s.heap H locs
/-- from pc on, with locals L, stack S, memory M: it returns, and Q holds of the answer and the memory. d: frames left; kc, ns: cells and slots left -/
def WA (X : Cx) (d kc ns : Nat) (mt : MT) (pc : Nat) (L : List (Option AV)) (S : List AV) (M : Mem) (Q : Option AV → Mem → Prop) : Prop :=
  ∀ (p : Program) (e : Env) (R : Room) (s : State) (m : MethodId) (args : Array Value) (below : List Frame) (meth : Method) (c : Code) (H : Heap) (locs : List Loc) (cells slots : Nat) (ls : Array Slot),
    EX X d kc ns mt p R s m meth c H locs cells slots → hasL X.2.2.2 ls mt.2.2.1 L → Rl X M H →
    W p X.1 e R s m args below meth c H locs cells slots (MQ below (QX X Q) args s R.cells R.slots (AX X)) (F0 m pc ls (S.map (cv X.2.2.2)))
def rmX (d kc ns : Nat) : Room := { frames := d, cells := kc, slots := ns, locals := 64 * d }
def PX (X : Cx) (av : List AV) (M : Mem) : Array Value → State → Prop := va_Pc (av.map (cv X.2.2.2)) (fun U => KX X U ∧ Rl X M U.heap)
/-- the contract of a call -/
def Cl (X : Cx) (d kc ns : Nat) (mt : MT) (av : List AV) (M : Mem) (Q : Option AV → Mem → Prop) : Prop :=
  Met X.1 mt.1 [Cond.code mt.1 mt.2.1 mt.2.2.1 mt.2.2.2] (rmX d kc ns) (PX X av M) (QX X Q) kc ns (AX X)
/-! rows on the memory -/
theorem cE_obj {b0 : Nat} {cy : Nat → ClassId} {M : Mem} {a k n : Nat} (h : isK M a k n) (hk : k < 12) : cE b0 cy M a = .inr (k, fv b0 M a k) := by
  unfold cE isK at *; rw [h]; simp [hk]
theorem cE_int {b0 : Nat} {cy : Nat → ClassId} {M : Mem} {a k n : Nat} (h : isK M a k n) (hk : 12 ≤ k) (hk2 : k < 16) : cE b0 cy M a = .inl (cy k, n, .inl (M.1 a)) := by
  unfold cE isK at *; rw [h]; simp [Nat.not_lt.mpr hk, hk2]
theorem cE_ref {b0 : Nat} {cy : Nat → ClassId} {M : Mem} {a k n : Nat} (h : isK M a k n) (hk : 16 ≤ k) (hk2 : k < 20) : cE b0 cy M a = .inl (cy k, n, .inr (.inr (.inr (.inr (fun i => rO b0 (M.2.1 a i)))))) := by
  unfold cE isK at *; rw [h]; simp [Nat.not_lt.mpr hk, show ¬ k < 12 by omega, hk2]
theorem cE_long {b0 : Nat} {cy : Nat → ClassId} {M : Mem} {a n : Nat} (h : isK M a 20 n) : cE b0 cy M a = .inl (cy 20, n, .inr (.inl (M.2.2.1 a))) := by
  unfold cE isK at *; rw [h]; simp
/-- a thing of a class that nobody looks into -/
theorem cE_exc {b0 : Nat} {cy : Nat → ClassId} {M : Mem} {a n : Nat} (h : isK M a 21 n) : cE b0 cy M a = .inr (12, []) := by
  unfold cE isK at *; rw [h]; simp
theorem isK_pos {X : Cx} {M : Mem} {H : Heap} {a k n : Nat} (hR : Rl X M H) (h : isK M a k n) (hk : k ≠ 99) : 0 < a := by
  rcases Nat.eq_zero_or_pos a with h0 | h0
  · subst h0
    unfold isK at h
    rw [hR.2.1] at h
    cases h
    exact absurd rfl hk
  · exact h0
theorem isK_lt {M : Mem} {a k n : Nat} (h : isK M a k n) : a < M.2.2.2.length := (List.getElem?_eq_some_iff.mp h).1
theorem ws_at {b0 : Nat} {cy : Nat → ClassId} {M : Mem} {a : Nat} (h0 : 0 < a) (h : a < M.2.2.2.length) : (wsM b0 cy M)[a - 1]? = some (b0 + a, cE b0 cy M a) := by
  unfold wsM
  rw [List.getElem?_map, List.getElem?_range (by omega)]
  simp [show a - 1 + 1 = a by omega]
theorem ws_D {X : Cx} {M : Mem} : va_D (AX X) (wsM X.2.2.2 X.2.2.1 M) := by
  have key : ∀ (k : Nat) (q : Nat × va_E), (wsM X.2.2.2 X.2.2.1 M)[k]? = some q → q.1 = X.2.2.2 + (k + 1) := by
    intro k q h
    unfold wsM at h
    rw [List.getElem?_map] at h
    cases hr : (List.range (M.2.2.2.length - 1))[k]? with
    | none => rw [hr] at h; cases h
    | some j =>
      rw [hr] at h
      have := List.getElem?_eq_some_iff.mp hr
      obtain ⟨h1, h2⟩ := this
      simp at h2
      cases h
      simp [h2]
  refine ⟨fun i j p q h1 h2 h3 => ?_, fun k q h => ?_⟩
  · have e1 := key i p h1
    have e2 := key j q h2
    omega
  · show X.2.2.2 < q.1
    rw [key k q h]; omega
/-- a change of one cell -/
theorem ws_set {b0 : Nat} {cy : Nat → ClassId} {M M' : Mem} {a : Nat} {e : va_E} (h0 : 0 < a) (hS : M'.2.2.2 = M.2.2.2) (ho : ∀ b, b ≠ a → cE b0 cy M' b = cE b0 cy M b) (he : cE b0 cy M' a = e) : (wsM b0 cy M).set (a - 1) (b0 + a, e) = wsM b0 cy M' := by
  apply List.ext_getElem?
  intro i
  unfold wsM
  rw [List.getElem?_set, hS]
  by_cases hi : a - 1 = i
  · subst hi
    simp only [if_true, List.length_map, List.length_range]
    by_cases hl : a - 1 < M.2.2.2.length - 1
    · rw [if_pos hl, List.getElem?_map, List.getElem?_range hl]
      simp [show a - 1 + 1 = a by omega, he]
    · rw [if_neg hl, List.getElem?_map, List.getElem?_eq_none (by simp; omega)]
      rfl
  · rw [if_neg hi, List.getElem?_map, List.getElem?_map]
    by_cases hl : i < M.2.2.2.length - 1
    · rw [List.getElem?_range hl]
      simp [ho (i + 1) (by omega)]
    · rw [List.getElem?_eq_none (by simp; omega)]
      rfl
theorem ws_push {b0 : Nat} {cy : Nat → ClassId} {M M' : Mem} {k n : Nat} {e : va_E} (h1 : 0 < M.2.2.2.length) (hS : M'.2.2.2 = M.2.2.2 ++ [(k, n)]) (ho : ∀ b, b < M.2.2.2.length → cE b0 cy M' b = cE b0 cy M b) (he : cE b0 cy M' M.2.2.2.length = e) : wsM b0 cy M ++ [(b0 + M.2.2.2.length, e)] = wsM b0 cy M' := by
  unfold wsM
  rw [hS, List.length_append, List.length_singleton, Nat.add_sub_cancel]
  conv => rhs; rw [show M.2.2.2.length = (M.2.2.2.length - 1) + 1 by omega, List.range_succ, List.map_append]
  congr 1
  · apply List.map_congr_left
    intro j hj
    rw [ho (j + 1) (by have := List.mem_range.mp hj; omega)]
  · simp [show M.2.2.2.length - 1 + 1 = M.2.2.2.length by omega, he]
theorem cE_off {b0 : Nat} {cy : Nat → ClassId} {M M' : Mem} {b : Nat} (hS : M'.2.2.2 = M.2.2.2) (h1 : M'.1 b = M.1 b) (h2 : M'.2.1 b = M.2.1 b) (h3 : M'.2.2.1 b = M.2.2.1 b) : cE b0 cy M' b = cE b0 cy M b := by
  unfold cE fv
  rw [hS, h1, h2, h3]
theorem up2_off {α : Type} {f : Nat → Nat → α} {a i : Nat} {v : α} {b : Nat} (h : b ≠ a) : up2 f a i v b = f b := by
  funext j; simp [up2, h]
theorem up2_on {α : Type} {f : Nat → Nat → α} {a i : Nat} {v : α} : up2 f a i v a = fun j => if j = i then v else f a j := by
  funext j; simp [up2]
theorem fv_setI {b0 : Nat} {M : Mem} {a ci k : Nat} {v : Int32} (hr : rfC ci k = false) : (fv b0 M a ci).set k (.int v) = fv b0 (sI M a k v) a ci := by
  apply List.ext_getElem?
  intro i
  unfold fv sI
  rw [List.getElem?_set, List.getElem?_map, List.getElem?_map]
  simp only [List.length_map, List.length_range, up2_on]
  by_cases hi : k = i
  · subst hi
    by_cases hl : k < NC ci
    · simp [hl, hr]
    · simp [hl]
  · by_cases hl : i < NC ci
    · simp [hi, hl, Ne.symm hi]
    · simp [hi, hl]
theorem fv_setR {b0 : Nat} {M : Mem} {a ci k v : Nat} (hr : rfC ci k = true) : (fv b0 M a ci).set k (va_rf (rO b0 v)) = fv b0 (sR M a k v) a ci := by
  apply List.ext_getElem?
  intro i
  unfold fv sR
  rw [List.getElem?_set, List.getElem?_map, List.getElem?_map]
  simp only [List.length_map, List.length_range, up2_on]
  by_cases hi : k = i
  · subst hi
    by_cases hl : k < NC ci
    · simp [hl, hr]
    · simp [hl]
  · by_cases hl : i < NC ci
    · simp [hi, hl, Ne.symm hi]
    · simp [hi, hl]
theorem rO_pos {b0 a : Nat} (h : 0 < a) : va_rf (rO b0 a) = .ref (b0 + a) := by
  unfold rO; rw [if_neg (by omega)]; rfl
theorem rO_inj {b0 a b : Nat} : rO b0 a = rO b0 b ↔ a = b := by
  unfold rO
  by_cases h1 : a = 0 <;> by_cases h2 : b = 0 <;> simp [h1, h2] <;> omega
theorem wd {X : Cx} {d kc ns : Nat} {mt : MT} {p : Program} {R : Room} {s : State} {m : MethodId} {meth : Method} {c : Code} {H : Heap} {locs : List Loc} {cells slots : Nat} (E : EX X d kc ns mt p R s m meth c H locs cells slots) {w : Cond} (h : w ∈ lw_tbl) (args : Array Value) (hk : okw w = true := by rfl) : w.before args s = true := E.2.2.2.2.2.1.1 w h hk args
theorem wd_u {X : Cx} {d kc ns : Nat} {mt : MT} {p : Program} {R : Room} {s : State} {m : MethodId} {meth : Method} {c : Code} {H : Heap} {locs : List Loc} {cells slots : Nat} (E : EX X d kc ns mt p R s m meth c H locs cells slots) {ci : Nat} (hc : ci < 12) (args : Array Value) : ∀ w ∈ u_ws (nmC ci) (TC ci) (NC ci), w.before args s = true := by
  intro w hw
  refine wd E (ws_in ci hc w hw) args ?_
  obtain ⟨k, -, rfl⟩ := List.mem_map.mp hw
  unfold u_lay
  split <;> rfl
