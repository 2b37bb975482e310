/-! ROWS: what is made; entry; calls -/
section MAKE
variable {X : Cx} {d kc ns : Nat} {mt : MT} {pc n : Nat} {L L' : List (Option AV)} {S : List AV} {M : Mem} {Q : Option AV → Mem → Prop}
theorem isK_nw {k n0 : Nat} : isK (nw M k n0) (nx M) k n0 := by
  unfold isK nw nx
  simp
theorem isK_nw_old {a k n0 k1 n1 : Nat} (h : isK M a k n0) : isK (nw M k1 n1) a k n0 := by
  have := isK_lt h
  unfold isK nw at *
  simp [List.getElem?_append_left this, h]
theorem cE_old {b0 : Nat} {cy : Nat → ClassId} {M' : Mem} {k n0 b : Nat} (hS : M'.2.2.2 = M.2.2.2 ++ [(k, n0)]) (hb : b < M.2.2.2.length) (h1 : M'.1 b = M.1 b) (h2 : M'.2.1 b = M.2.1 b) (h3 : M'.2.2.1 b = M.2.2.1 b) : cE b0 cy M' b = cE b0 cy M b := by
  unfold cE fv
  rw [hS, h1, h2, h3, List.getElem?_append_left hb]
/-- the memory behind a cell that has been made -/
theorem Rl.push {H H1 : Heap} {M' : Mem} {k n0 : Nat} {e : va_E} (hR : Rl X M H) (hS : M'.2.2.2 = M.2.2.2 ++ [(k, n0)]) (ho : ∀ b, b < M.2.2.2.length → cE X.2.2.2 X.2.2.1 M' b = cE X.2.2.2 X.2.2.1 M b) (he : cE X.2.2.2 X.2.2.1 M' M.2.2.2.length = e) (hz : H1.size = H.size + 1) (ok : ∀ q, q < H.size → H1[q]? = H[q]?) (hat : va_at X.2.1 cls (X.2.2.2 + M.2.2.2.length, e) H1) : Rl X M' H1 := by
  have hl : 0 < M.2.2.2.length := (List.getElem?_eq_some_iff.mp hR.2.1).1
  refine ⟨by rw [hz, hR.1, hS, List.length_append]; rfl, by rw [hS, List.getElem?_append_left hl]; exact hR.2.1, ?_⟩
  rw [← ws_push hl hS ho he]
  refine (hR.2.2.kept (fun k q hk => ok q.1 ((hR.2.2 k q hk).lt))).app (fun j q hq => ?_)
  have hj : j < 1 := (List.getElem?_eq_some_iff.mp hq).1
  obtain rfl : j = 0 := by omega
  cases hq
  exact hat
theorem va_S.grow {A : Nat → Prop} {H0 H H1 : Heap} {locs : List Loc} (hS : va_S A H0 H locs) (hz : H1.size = H.size + 1) (ok : ∀ q, q < H.size → H1[q]? = H[q]?) : va_S A H0 H1 locs :=
  ⟨Nat.le_trans hS.1 (by omega), fun x h1 h2 => (ok x (Nat.lt_of_lt_of_le h1 hS.1)).trans (hS.2.1 x h1 h2), hS.2.2⟩
theorem fv_new {b0 ci : Nat} {k n0 : Nat} : fv b0 (nw M k n0) M.2.2.2.length ci = (List.range (NC ci)).map (fun j => if rfC ci j then Value.null else .int 0) := by
  unfold fv nw
  simp [rO, va_rf]
theorem EX.spend {p : Program} {R : Room} {s : State} {m : MethodId} {meth : Method} {c : Code} {H : Heap} {locs : List Loc} {cells slots k1 n1 : Nat} (E : EX X d kc ns mt p R s m meth c H locs cells slots) (h1 : k1 ≤ kc) (h2 : n1 ≤ ns) : EX X d (kc - k1) (ns - n1) mt p R s m meth c H locs (cells + k1) (slots + n1) := by
  obtain ⟨a1, a2, a3, a4, a5, a6, a7⟩ := E
  exact ⟨a1, a2, a3, by omega, by omega, a6, a7⟩
theorem x_new {ci idx N : Nat} (hd : DC mt.2.1 pc (.new idx) 3 n) (hc : ci < 12) (hN : NC ci = N) (hl : Cond.classLink mt.1.cls idx (nmC ci) ∈ lw_tbl) (hins : Cond.instantiable (nmC ci) N ∈ lw_tbl) (hini : Cond.initialized (nmC ci) ∈ lw_tbl) (h1 : 1 ≤ kc) (h2 : N ≤ ns) (h : WA X d (kc - 1) (ns - N) mt n L (vR (nx M) :: S) (nw M ci N) Q) : WA X d kc ns mt pc L S M Q := by
  obtain ⟨hd, rfl⟩ := hd
  subst hN
  intro p e R s m args below meth c H locs cells slots ls E hL hR
  have hK := E.2.2.2.2.2.1.2.1
  have hKn := hK.1 ci _ (cls_at hc)
  have hl0 : 0 < M.2.2.2.length := (List.getElem?_eq_some_iff.mp hR.2.1).1
  refine W.newcK E.1.1 E.1.2.1 E.1.2.2.2.2.1 (wd E hl args) (wd E hins args) (wd E hini args) rfl hd (by have := E.2.2.2.1; omega) (by have := E.2.2.2.2.1; omega) hKn.2.1 hR.1 fun H1 kC hkC e1 z1 o1 => ?_
  have ok : ∀ q, q < H.size → H1[q]? = H[q]? := fun q hq => o1 q (by rw [← hR.1]; exact hq)
  have hz : H1.size = H.size + 1 := by rw [z1, hR.1]
  have hw := h p e R s m args below meth c H1 locs (cells + 1) (slots + NC ci) ls ((E.spend h1 h2).on (E.2.2.2.2.2.2.grow hz ok)) hL
    (Rl.push (M' := nw M ci (NC ci)) (e := .inr (ci, (List.range (NC ci)).map (fun j => if rfC ci j then Value.null else .int 0))) hR rfl (fun b hb => cE_old (k := ci) (n0 := NC ci) rfl hb (by unfold nw; funext j; simp [Nat.ne_of_lt hb]) (by unfold nw; funext j; simp [Nat.ne_of_lt hb]) (by unfold nw; funext j; simp [Nat.ne_of_lt hb])) ((cE_obj (M := nw M ci (NC ci)) (isK_nw (M := M)) hc).trans (by rw [show nx M = M.2.2.2.length from rfl, fv_new])) hz ok
      ⟨_, cls_at hc, (u_born (tyC ci) (wd_u E hc args) (fun _ q => q) hKn hkC e1 (tyC_ok ci hc)).to (fun j hj => by
        have hv : vp_V ((List.range (NC ci)).map (fun j => if rfC ci j then Value.null else .int 0)) j = if rfC ci j then Value.null else .int 0 := by
          unfold vp_V; rw [List.getD_eq_getElem?_getD, List.getElem?_map, List.getElem?_range hj]; rfl
        rw [hv]
        cases hr : rfC ci j with
        | false => exact (rfC_ok ci hc j hj).1 hr
        | true => exact ((rfC_ok ci hc j hj).2 hr).1)⟩)
  rw [List.map_cons, show cv X.2.2.2 (vR (nx M)) = .ref (X.2.2.2 + M.2.2.2.length) from rO_pos hl0] at hw
  exact hw
/-- the kinds of arrays by newarray -/
def akind : ArrayType → Nat
  | .boolean => 15
  | .byte => 12
  | .char => 13
  | .long => 20
  | _ => 14
theorem x_newa {at_ : ArrayType} {k : Nat} {x : Int32} (hd : DC mt.2.1 pc (.newarray at_) 2 n) (hk : (match at_ with | .boolean => k = 15 | .byte => k = 12 | .char => k = 13 | .int => k = 14 | .long => k = 20 | _ => False)) (hl : Cond.arrayClass (newarray.typeOf at_) ∈ lw_tbl) (hx : vp_in x 65536) (h1 : 1 ≤ kc) (h2 : ix x ≤ ns) (h : WA X d (kc - 1) (ns - ix x) mt n L (vR (nx M) :: S) (nw M k (ix x)) Q) : WA X d kc ns mt pc L (vI x :: S) M Q := by
  obtain ⟨hd, rfl⟩ := hd
  intro p e R s m args below meth c H locs cells slots ls E hL hR
  have hK := E.2.2.2.2.2.1.2.1
  have hl0 : 0 < M.2.2.2.length := (List.getElem?_eq_some_iff.mp hR.2.1).1
  have hb1 : ¬ x < 0 := fun q => hx (Or.inl q)
  have hb2 : x.toNatClampNeg < 65536 := Nat.not_le.mp fun q => hx (Or.inr q)
  have hcb : componentBytes (newarray.typeOf at_) ≤ 8 := by cases at_ <;> decide
  have hby : x.toNatClampNeg * componentBytes (newarray.typeOf at_) ≤ 536870912 := Nat.le_trans (Nat.mul_le_mul (Nat.le_of_lt hb2) hcb) (by decide)
  refine va_newaK E.1.1 E.1.2.1 (wd E hl args) rfl hd rfl hb1 rfl hby (by have := E.2.2.2.1; omega) (by have := E.2.2.2.2.1; unfold ix at h2; omega) hR.1 fun H1 cA e1 z1 o1 hAr hNm => ?_
  have ok : ∀ q, q < H.size → H1[q]? = H[q]? := fun q hq => o1 q (by rw [← hR.1]; exact hq)
  have hz : H1.size = H.size + 1 := by rw [z1, hR.1]
  have hold : ∀ b, b < M.2.2.2.length → cE X.2.2.2 X.2.2.1 (nw M k (ix x)) b = cE X.2.2.2 X.2.2.1 M b := fun b hb => cE_old (k := k) (n0 := ix x) rfl hb (by unfold nw; funext j; simp [Nat.ne_of_lt hb]) (by unfold nw; funext j; simp [Nat.ne_of_lt hb]) (by unfold nw; funext j; simp [Nat.ne_of_lt hb])
  have hcell : va_at X.2.1 cls (X.2.2.2 + M.2.2.2.length, cE X.2.2.2 X.2.2.1 (nw M k (ix x)) M.2.2.2.length) H1 := by
    have hi : isK (nw M k (ix x)) M.2.2.2.length k (ix x) := isK_nw (M := M)
    have hcy : ∀ (t0 : Nat) (ty : FieldType), (tysX X)[t0]? = some (X.2.2.1 k, ty) → ty = newarray.typeOf at_ → (match ty with | .object _ => False | _ => True) → cA = X.2.2.1 k := by
      intro t0 ty h0 he ho
      have h9 := (hK.2 t0 _ h0).2
      subst he
      have h8 : s.vm.findClass ("[" ++ (newarray.typeOf at_).toString) = some (X.2.2.1 k) := by cases at_ <;> exact h9
      exact Option.some.inj (hNm.symm.trans h8)
    cases at_ <;> simp only at hk <;> first | (exact hk.elim) | skip
    · subst hk
      rw [cE_int hi (by decide) (by decide), ← hcy 3 .boolean rfl rfl trivial]
      show H1[_]? = some (vp_cell _ _)
      rw [vp_cell_i, e1]
      unfold nw
      simp [defaultValue, newarray.typeOf, ix]
    · subst hk
      rw [cE_int hi (by decide) (by decide), ← hcy 1 .char rfl rfl trivial]
      show H1[_]? = some (vp_cell _ _)
      rw [vp_cell_i, e1]
      unfold nw
      simp [defaultValue, newarray.typeOf, ix]
    · subst hk
      rw [cE_int hi (by decide) (by decide), ← hcy 0 .byte rfl rfl trivial]
      show H1[_]? = some (vp_cell _ _)
      rw [vp_cell_i, e1]
      unfold nw
      simp [defaultValue, newarray.typeOf, ix]
    · subst hk
      rw [cE_int hi (by decide) (by decide), ← hcy 2 .int rfl rfl trivial]
      show H1[_]? = some (vp_cell _ _)
      rw [vp_cell_i, e1]
      unfold nw
      simp [defaultValue, newarray.typeOf, ix]
    · subst hk
      rw [cE_long hi, ← hcy 8 .long rfl rfl trivial]
      show H1[_]? = some (vp_cell _ _)
      rw [vp_cell_l, e1]
      unfold nw
      simp [defaultValue, newarray.typeOf, ix]
  have hw := h p e R s m args below meth c H1 locs (cells + 1) (slots + ix x) ls ((E.spend h1 h2).on (E.2.2.2.2.2.2.grow hz ok)) hL (Rl.push hR rfl hold rfl hz ok hcell)
  rw [List.map_cons, show cv X.2.2.2 (vR (nx M)) = .ref (X.2.2.2 + M.2.2.2.length) from rO_pos hl0] at hw
  exact hw
theorem x_anew {k ci idx : Nat} {x : Int32} (hd : DC mt.2.1 pc (.anewarray idx) 3 n) (hk : (k, ci) ∈ [(16, 0), (17, 1), (18, 3), (19, 6)]) (hl : Cond.classLink mt.1.cls idx (nmC ci) ∈ lw_tbl) (hov : Cond.arrayOver (.object (nmC ci)) ∈ lw_tbl) (hx : vp_in x 65536) (h1 : 1 ≤ kc) (h2 : ix x ≤ ns) (h : WA X d (kc - 1) (ns - ix x) mt n L (vR (nx M) :: S) (nw M k (ix x)) Q) : WA X d kc ns mt pc L (vI x :: S) M Q := by
  obtain ⟨hd, rfl⟩ := hd
  intro p e R s m args below meth c H locs cells slots ls E hL hR
  have hK := E.2.2.2.2.2.1.2.1
  have hl0 : 0 < M.2.2.2.length := (List.getElem?_eq_some_iff.mp hR.2.1).1
  have hb1 : ¬ x < 0 := fun q => hx (Or.inl q)
  have hb2 : x.toNatClampNeg < 65536 := Nat.not_le.mp fun q => hx (Or.inr q)
  refine W.anew E.1.1 E.1.2.1 E.1.2.2.2.2.1 (wd E hl args) (wd E hov args) rfl hd rfl hb1 (by omega) (by have := E.2.2.2.1; omega) (by have := E.2.2.2.2.1; unfold ix at h2; omega) fun cA kA comp f1 f2 f3 f4 => ?_
  generalize hH1 : H.push ({ cls := cA, slots := Array.replicate x.toNatClampNeg .null, vm := .none } : Cell) = H1
  have hz : H1.size = H.size + 1 := by rw [← hH1, Array.size_push]
  have e1 : H1[H.size]? = some (arrV cA x.toNatClampNeg (fun _ => .null)) := by rw [← hH1, Array.getElem?_push_size, ← arrV_new]
  have ok : ∀ q : Nat, q < H.size → H1[q]? = H[q]? := fun q hq => by rw [← hH1, Array.getElem?_push, if_neg (Nat.ne_of_lt hq)]
  have hold : ∀ b, b < M.2.2.2.length → cE X.2.2.2 X.2.2.1 (nw M k (ix x)) b = cE X.2.2.2 X.2.2.1 M b := fun b hb => cE_old (k := k) (n0 := ix x) rfl hb (by unfold nw; funext j; simp [Nat.ne_of_lt hb]) (by unfold nw; funext j; simp [Nat.ne_of_lt hb]) (by unfold nw; funext j; simp [Nat.ne_of_lt hb])
  have hi : isK (nw M k (ix x)) M.2.2.2.length k (ix x) := isK_nw (M := M)
  have hkk : 16 ≤ k ∧ k < 20 := by
    simp only [List.mem_cons, Prod.mk.injEq, List.not_mem_nil, or_false] at hk; omega
  have hcA : cA = X.2.2.1 k := by
    have h9 : ∃ t0 : Nat, (tysX X)[t0]? = some (X.2.2.1 k, FieldType.object (nmC ci)) := by
      simp only [List.mem_cons, Prod.mk.injEq, List.not_mem_nil, or_false] at hk
      rcases hk with ⟨rfl, rfl⟩ | ⟨rfl, rfl⟩ | ⟨rfl, rfl⟩ | ⟨rfl, rfl⟩
      · exact ⟨4, rfl⟩
      · exact ⟨5, rfl⟩
      · exact ⟨6, rfl⟩
      · exact ⟨7, rfl⟩
    obtain ⟨t0, h9⟩ := h9
    obtain ⟨_, _, -, -, -, h8⟩ := (hK.2 t0 _ h9).2
    exact Option.some.inj (f1.symm.trans h8)
  have hcell : va_at X.2.1 cls (X.2.2.2 + M.2.2.2.length, cE X.2.2.2 X.2.2.1 (nw M k (ix x)) M.2.2.2.length) H1 := by
    rw [cE_ref hi hkk.1 hkk.2, ← hcA]
    show H1[_]? = some (vp_cell _ _)
    rw [vp_cell_q, ← hR.1, e1]
    unfold nw
    simp [rO, va_rf, ix]
  have hw := h p e R s m args below meth c H1 locs (cells + 1) (slots + ix x) ls ((E.spend h1 h2).on (E.2.2.2.2.2.2.grow hz ok)) hL (Rl.push hR rfl hold rfl hz ok hcell)
  rw [List.map_cons, show cv X.2.2.2 (vR (nx M)) = .ref (X.2.2.2 + M.2.2.2.length) from rO_pos hl0, ← hR.1] at hw
  exact hw
end MAKE
section CALLS
variable {X : Cx} {d kc ns : Nat} {mt : MT} {pc n : Nat} {L L' : List (Option AV)} {S : List AV} {M : Mem} {Q : Option AV → Mem → Prop}
/-- a copy of an int array -/
theorem x_clone {a n0 idx : Nat} (hd : DC mt.2.1 pc (.invokevirtual idx) 3 n) (hl : Cond.methodLink mt.1.cls idx ⟨"[I", "clone", "()Ljava/lang/Object;"⟩ ∈ lw_tbl) (hsame : Cond.sameMethod "[I" "java/lang/Object" "clone" "()Ljava/lang/Object;" ∈ lw_tbl) (hnat : Cond.native ⟨"java/lang/Object", "clone", "()Ljava/lang/Object;"⟩ ∈ lw_tbl) (hinst : Cond.instanceMethod ⟨"java/lang/Object", "clone", "()Ljava/lang/Object;"⟩ ∈ lw_tbl) (hsel : Cond.selects "[I" ⟨"[I", "clone", "()Ljava/lang/Object;"⟩ ⟨"java/lang/Object", "clone", "()Ljava/lang/Object;"⟩ ∈ lw_tbl) (hcl : Cond.castable "[I" "java/lang/Cloneable" ∈ lw_tbl)
    (ho : isK M a 14 n0) (hd1 : 1 ≤ d) (hS : S.length ≤ 8) (h1 : 1 ≤ kc) (h2 : n0 ≤ ns) (h : WA X d (kc - 1) (ns - n0) mt n L (vR (nx M) :: S) (nwc M a n0) Q) : WA X d kc ns mt pc L (vR a :: S) M Q := by
  obtain ⟨hd, rfl⟩ := hd
  intro p e R s m args below meth c H locs cells slots ls E hL hR
  have hK := E.2.2.2.2.2.1.2.1
  have hl0 : 0 < M.2.2.2.length := (List.getElem?_eq_some_iff.mp hR.2.1).1
  obtain ⟨h0, hw⟩ := ws_arr hR ho (by decide) (cE_int ho (by decide) (by decide))
  rw [List.map_cons, show cv X.2.2.2 (vR a) = .ref (X.2.2.2 + a) from rO_pos h0]
  have hnm : s.vm.findClass "[I" = some (X.2.2.1 14) := (hK.2 2 _ rfl).2
  obtain ⟨c0, t0', f1, f2, f3⟩ := Cond.castable_spec (wd E hcl args)
  cases hnm.symm.trans f1
  intro T hT X9
  have hcellT : T.heap[X.2.2.2 + a]? = some (vp_cell (X.2.2.1 14) (n0, .inl (M.1 a))) := by rw [hT]; exact hR.2.2 (a - 1) _ hw
  obtain ⟨-, kA, hkA, comp, hkind⟩ := State.isArrayOf_alike X9.warmed.alike ((hK.2 2 _ rfl).1 0 (fun _ => .null))
  obtain ⟨-, kS, hkS, compS, hkindS⟩ := (hK.2 2 _ rfl).1 0 (fun _ => .null)
  have hcat : ((S.map (cv X.2.2.2)).map fun v => v.category).sum ≤ 16 := by
    clear h hL hw hd
    have key : ∀ l : List AV, ((l.map (cv X.2.2.2)).map fun v => v.category).sum ≤ 2 * l.length := by
      intro l
      induction l with
      | nil => simp
      | cons v t ih =>
        simp only [List.map_cons, List.sum_cons, List.length_cons]
        have : (cv X.2.2.2 v).category ≤ 2 := by rcases lv_cat (cv X.2.2.2 v) with q | q <;> omega
        omega
    have := key S
    omega
  have hsz : (vp_cell (X.2.2.1 14) (n0, .inl (M.1 a))).slots.size = n0 := arrV_size _ _ _
  obtain ⟨vm', X', st⟩ := X9.cloneArray E.1.1 E.1.2.2.2.2.1 (wd E hl args) (wd E hsame args) (wd E hnat args) (wd E hinst args) (wd E hsel args) hcellT (fun k h => by cases h) (fun h => by cases h) hnm f2 f3
    (fun i v hv => by
      have hk' : T.vm.classes[X.2.2.1 14]? = some kA := hkA
      have hfit : fits .int v = true := by
        have hi : i < n0 := by
          rcases Nat.lt_or_ge i n0 with q | q
          · exact q
          · rw [Array.getElem?_eq_none (by rw [hsz]; exact q)] at hv; cases hv
        have h9 : (vp_cell (X.2.2.1 14) (n0, .inl (M.1 a))).slots[i]? = some (.int (M.1 a i)) := arrV_read _ _ hi
        cases hv.symm.trans h9
        rfl
      simpa [State.fitsSlot, State.slotType?, hk', hkind, vp_cell_i, arrV] using hfit)
    (g := F0 m pc ls (.ref (X.2.2.2 + a) :: S.map (cv X.2.2.2))) rfl (by rw [E.1.2.2.2.1]; exact hL.1) rfl (by rw [E.1.2.1]; exact hd) (by have := E.2.1; omega) (by show 2 * 0 + _ + 14 ≤ _; have := E.2.2.1; omega) (by have := E.2.2.2.1; omega) (by rw [hsz]; have := E.2.2.2.2.1; omega) (hloader := Vm.clonesLoader_of_array hkS hkindS)
  have hcellE : ({ cls := (vp_cell (X.2.2.1 14) (n0, .inl (M.1 a))).cls, slots := (vp_cell (X.2.2.1 14) (n0, .inl (M.1 a))).slots } : Cell) = vp_cell (X.2.2.1 14) (n0, .inl (M.1 a)) := rfl
  rw [hcellE, hsz] at X'
  generalize hH1 : H.push (vp_cell (X.2.2.1 14) (n0, .inl (M.1 a))) = H1
  have hz : H1.size = H.size + 1 := by rw [← hH1, Array.size_push]
  have e1 : H1[H.size]? = some (vp_cell (X.2.2.1 14) (n0, .inl (M.1 a))) := by rw [← hH1, Array.getElem?_push_size]
  have ok : ∀ q : Nat, q < H.size → H1[q]? = H[q]? := fun q hq => by rw [← hH1, Array.getElem?_push, if_neg (Nat.ne_of_lt hq)]
  have hi : isK (nwc M a n0) M.2.2.2.length 14 n0 := by unfold isK nwc; simp
  have hal : a < M.2.2.2.length := isK_lt ho
  have hR1 : Rl X (nwc M a n0) H1 := Rl.push (k := 14) (n0 := n0) hR rfl (fun b hb => cE_old (k := 14) (n0 := n0) rfl hb (by unfold nwc; funext j; simp [Nat.ne_of_lt hb]) (by unfold nwc; funext j; simp [Nat.ne_of_lt hb]) (by unfold nwc; funext j; simp [Nat.ne_of_lt hb])) (cE_int hi (by decide) (by decide)) hz ok (by
      show H1[_]? = some (vp_cell _ _)
      rw [← hR.1, e1]
      unfold nwc
      simp)
  obtain ⟨t, b1, b2⟩ := h p e R s m args below meth c H1 locs (cells + 1) (slots + n0) ls ((E.spend h1 h2).on (E.2.2.2.2.2.2.grow hz ok)) hL hR1 ((T.setVm vm').pushCell (vp_cell (X.2.2.1 14) (n0, .inl (M.1 a)))) (by rw [← hH1, ← hT]; rfl) X'
  refine ⟨t, st t ?_, b2⟩
  rw [hcellE, hT, hR.1]
  rw [List.map_cons, show cv X.2.2.2 (vR (nx M)) = .ref (X.2.2.2 + M.2.2.2.length) from rO_pos hl0] at b1
  exact b1
theorem x_castI {a n0 idx : Nat} (hd : DC mt.2.1 pc (.checkcast idx) 3 n) (hl : Cond.classLink mt.1.cls idx "[I" ∈ lw_tbl) (ho : isK M a 14 n0) (h : WA X d kc ns mt n L (vR a :: S) M Q) : WA X d kc ns mt pc L (vR a :: S) M Q := by
  obtain ⟨hd, rfl⟩ := hd
  intro p e R s m args below meth c H locs cells slots ls E hL hR
  obtain ⟨h0, hw⟩ := ws_arr hR ho (by decide) (cE_int ho (by decide) (by decide))
  have h1 := h p e R s m args below meth c H locs cells slots ls E hL hR
  rw [List.map_cons, show cv X.2.2.2 (vR a) = .ref (X.2.2.2 + a) from rO_pos h0] at h1 ⊢
  exact va_castA E.1.1 E.1.2.1 E.1.2.2.2.2.1 (wd E hl args) hR.2.2 (a - 1) hw (show s.vm.findClass "[I" = some (X.2.2.1 14) from (E.2.2.2.2.2.1.2.1.2 2 _ rfl).2) hd h1
theorem x_objInit {a ci n0 idx : Nat} (hd : DC mt.2.1 pc (.invokespecial idx) 3 n) (hl : Cond.methodLink mt.1.cls idx objectInit ∈ lw_tbl) (hin : Cond.instanceMethod objectInit ∈ lw_tbl) (hcode : Cond.code objectInit ⟨#[0xb1]⟩ 1 none ∈ lw_tbl) (ho : isK M a ci n0) (hc : ci < 12) (hd1 : 1 ≤ d) (h : WA X d kc ns mt n L [] M Q) : WA X d kc ns mt pc L [vR a] M Q := by
  obtain ⟨hd, rfl⟩ := hd
  intro p e R s m args below meth c H locs cells slots ls E hL hR
  have h0 := isK_pos hR ho (by omega)
  show W _ _ _ _ _ _ _ _ _ _ _ _ _ _ _ (F0 m pc ls [cv X.2.2.2 (vR a)])
  rw [show cv X.2.2.2 (vR a) = .ref (X.2.2.2 + a) from rO_pos h0]
  refine W.objInit E.1.1 E.1.2.1 E.1.2.2.2.2.1 (wd E hl args) (wd E hin args) (wd E hcode args) rfl (by rw [E.1.2.2.2.1]; exact hL.1) rfl hd (by have := E.2.1; omega) (by show 2 * 0 + 0 + 12 ≤ _; have := E.2.2.1; have := E.2.1; omega) ?_
  exact h p e R s m args below meth c H locs cells slots ls E hL hR
/-! entry -/
def argL : List AV → List (Option AV)
  | [] => []
  | .inr (.inr x) :: t => some (vJ x) :: none :: argL t
  | v :: t => some v :: argL t
theorem argL_args {b0 : Nat} : ∀ (av : List AV) (k i : Nat) (v : AV), (argL av)[i]? = some (some v) → (k + i, cv b0 v) ∈ lv_args k (av.map (cv b0))
  | [], k, i, v, h => by simp [argL] at h
  | .inr (.inr x) :: t, k, i, v, h => by
    match i, h with
    | 0, h => cases h; exact List.mem_cons_self
    | 1, h => cases h
    | i + 2, h =>
      have := argL_args (b0 := b0) t (k + 2) i v h
      rw [show k + 2 + i = k + (i + 2) by omega] at this
      exact List.mem_cons_of_mem _ this
  | .inl x :: t, k, i, v, h => by
    match i, h with
    | 0, h => cases h; exact List.mem_cons_self
    | i + 1, h =>
      have := argL_args (b0 := b0) t (k + 1) i v h
      rw [show k + 1 + i = k + (i + 1) by omega] at this
      exact List.mem_cons_of_mem _ this
  | .inr (.inl x) :: t, k, i, v, h => by
    match i, h with
    | 0, h => cases h; exact List.mem_cons_self
    | i + 1, h =>
      have := argL_args (b0 := b0) t (k + 1) i v h
      rw [show k + 1 + i = k + (i + 1) by omega] at this
      refine List.mem_cons_of_mem _ ?_
      rw [show (if (cv b0 (Sum.inr (Sum.inl x))).category = 2 then k + 2 else k + 1) = k + 1 from if_neg (by rw [show (cv b0 (Sum.inr (Sum.inl x))).category = 1 from rO_cat b0 x]; decide)]
      exact this
theorem argL_len {b0 : Nat} : ∀ av : List AV, (lg_sl (av.map (cv b0))).length = (argL av).length
  | [] => rfl
  | .inr (.inr x) :: t => by
    show (lg_sl (Value.long x :: t.map (cv b0))).length = (argL t).length + 2
    rw [← argL_len (b0 := b0) t]
    simp [lg_sl, Value.category]; try omega
  | .inl x :: t => by
    show (lg_sl (Value.int x :: t.map (cv b0))).length = (argL t).length + 1
    rw [← argL_len (b0 := b0) t]
    simp [lg_sl, Value.category]; try omega
  | .inr (.inl x) :: t => by
    show (lg_sl (va_rf (rO b0 x) :: t.map (cv b0))).length = (argL t).length + 1
    rw [← argL_len (b0 := b0) t]
    simp [lg_sl, rO_cat]; try omega
theorem Cl.intro {av : List AV} {k : Nat} (hpl : plainName mt.1.cls = true) (hlen : (argL av).length + k = mt.2.2.1) (hL : argL av ++ List.replicate k none = L) (h : WA X d kc ns mt 0 L [] M Q) : Cl X d kc ns mt av M Q := by
  refine Met.ofW (cc := mt.2.1) (maxL := mt.2.2.1) (ret := mt.2.2.2) hpl rfl ?_
  intro p e s m args below meth c s₁ B hml hv
  obtain ⟨rfl, hKX, hR⟩ := hv
  rw [lg_entry_eq]
  have hle : (lg_sl (av.map (cv X.2.2.2))).length ≤ mt.2.2.1 := by rw [argL_len]; omega
  have hl := lv_entry (av.map (cv X.2.2.2)) hle
  refine h p e (rmX d kc ns) s m _ below meth c s.heap [] 0 0 _ ⟨⟨B.exec, B.bytes, B.returns, hml, findClass_of_methodNamed B.named, B.notSynchronized, (name_of_methodNamed B.named B.method).1⟩, Nat.le_refl _, Nat.le_refl _, by simp [rmX], by simp [rmX], hKX, va_S.rf⟩ ⟨hl.1, hl.2.1, fun i v hi => ?_⟩ hR
  subst hL
  rcases Nat.lt_or_ge i (argL av).length with q | q
  · rw [List.getElem?_append_left q] at hi
    have := argL_args (b0 := X.2.2.2) av 0 i v hi
    rw [Nat.zero_add] at this
    exact hl.2.2 _ this
  · rw [List.getElem?_append_right q, List.getElem?_replicate] at hi
    split at hi <;> cases hi
/-! calls -/
theorem callGo {p : Program} {e : Env} {R : Room} {s : State} {m : MethodId} {args a : Array Value} {below : List Frame} {meth : Method} {c : Code} {H : Heap} {locs : List Loc} {cells slots mc ms : Nat} {ls : Array Slot} {st0 rest : List Value} {Q' : Option AV → Mem → Prop} {Qf : State → Prop}
    (hr : va_Run p X.1 e R s m args below meth c H locs cells slots mc ms (F0 m pc ls st0) rest (QX X Q' a) (AX X)) (hS : va_S (AX X) s.heap H locs)
    (kk : ∀ (r : Option AV) (M' : Mem) (H1 : Heap) (locs1 : List Loc), Q' r M' → Rl X M' H1 → va_S (AX X) s.heap H1 locs1 → W p X.1 e R s m args below meth c H1 locs1 (cells + mc) (slots + ms) Qf (F0 m (pc + 3) ls ((r.map (cv X.2.2.2)).toList ++ rest))) : W p X.1 e R s m args below meth c H locs cells slots Qf (F0 m pc ls st0) := by
  intro T hT X9
  obtain ⟨v, st₀, t, T', L9, h0, X', hL, e1, e2, ⟨⟨r, M', hv, hq, hR⟩, hz, hk⟩, st⟩ := hr T hT X9
  cases hv
  rw [h0] at hz hk
  obtain ⟨t2, a1, b1⟩ := kk r M' T'.heap (locs ++ L9) hq (by rw [e1]; exact hR)
    ⟨Nat.le_trans hS.1 (by rw [e1]; exact hz), fun q h1 h2 => by rw [e1, hk q (Nat.lt_of_lt_of_le h1 hS.1) h2]; exact hS.2.1 q h1 h2, fun q hq => by
      rcases List.mem_append.mp hq with h | h
      · exact hS.2.2 q h
      · exact hL q h⟩ T' rfl X'
  exact ⟨t2, st t2 a1, b1⟩
/-- the link of a method: own, or a nest mate's -/
def mlk (own : String) (idx : Nat) (y : MethodName) : Prop := Cond.methodLink own idx y ∈ lw_tbl ∨ ∃ host : String, Cond.methodLinkNest own idx y host ∈ lw_tbl
/-- what the tables say of a method that is called: na parameters -/
def mOK (my : MT) (na : Nat) : Prop := Cond.initialized my.1.cls ∈ lw_tbl ∧ Cond.code my.1 my.2.1 my.2.2.1 my.2.2.2 ∈ lw_tbl ∧ (decide (my.1.cls ≠ "java/lang/invoke/MethodHandle") && decide (my.1.cls ≠ "java/lang/invoke/VarHandle") && decide ((parseMethodDescriptor my.1.desc).map (fun d => d.parameters.length) = some na) && decide (my.2.2.1 ≤ 45)) = true
def mOKV (my : MT) (na ci : Nat) : Prop := mOK my na ∧ Cond.instanceMethod my.1 ∈ lw_tbl ∧ Cond.selects my.1.cls my.1 my.1 ∈ lw_tbl ∧ my.1.cls = nmC ci ∧ ci < 12
def mOKS (my : MT) (na : Nat) : Prop := mOK my na ∧ Cond.static my.1 ∈ lw_tbl
def mOKI (my : MT) (na ci : Nat) : Prop := mOK my na ∧ Cond.instanceMethod my.1 ∈ lw_tbl ∧ my.1.name = "<init>" ∧ my.2.2.2 = none ∧ ci < 12
theorem goodCode (my : MT) (h : Cond.code my.1 my.2.1 my.2.2.1 my.2.2.2 ∈ lw_tbl) : GoodIn lw_tbl [Cond.code my.1 my.2.1 my.2.2.1 my.2.2.2] := by
  intro w hw
  cases List.mem_singleton.mp hw
  exact ⟨h, Or.inl rfl⟩
theorem goodCode1 (my : MT) : GoodIn [Cond.code my.1 my.2.1 my.2.2.1 my.2.2.2] [Cond.code my.1 my.2.1 my.2.2.1 my.2.2.2] := by
  intro w hw
  cases List.mem_singleton.mp hw
  exact ⟨List.mem_singleton.mpr rfl, Or.inl rfl⟩
def wS : List AV → Nat
  | [] => 0
  | .inr (.inr _) :: t => 2 + wS t
  | _ :: t => 1 + wS t
theorem cat8 {b0 : Nat} : ∀ S : List AV, ((S.map (cv b0)).map fun v => v.category).sum ≤ wS S
  | [] => Nat.le_refl _
  | .inr (.inr x) :: t => by
    have := cat8 (b0 := b0) t
    show 2 + ((t.map (cv b0)).map fun v => v.category).sum ≤ 2 + wS t
    omega
  | .inl x :: t => by
    have := cat8 (b0 := b0) t
    show 1 + ((t.map (cv b0)).map fun v => v.category).sum ≤ 1 + wS t
    omega
  | .inr (.inl x) :: t => by
    have := cat8 (b0 := b0) t
    show (va_rf (rO b0 x)).category + ((t.map (cv b0)).map fun v => v.category).sum ≤ 1 + wS t
    rw [rO_cat]
    omega
/-- the callee's premises at the call -/
theorem PX.pre {p : Program} {R : Room} {s : State} {m : MethodId} {meth : Method} {c : Code} {H : Heap} {locs : List Loc} {cells slots : Nat} {av : List AV} (E : EX X d kc ns mt p R s m meth c H locs cells slots) (hR : Rl X M H) : ∀ U : State, U.heap = H → s.WarmedH U.vm → PX X av M (av.map (cv X.2.2.2)).toArray U :=
  fun U hU hW => ⟨rfl, E.2.2.2.2.2.1.at hW E.2.2.2.2.2.2 hU, by rw [hU]; exact hR⟩
theorem x_callV {my : MT} {na ci a n0 idx kc1 ns1 : Nat} {As : List AV} {St : List AV} {Q' : Option AV → Mem → Prop} (hd : DC mt.2.1 pc (.invokevirtual idx) 3 n) (hl : mlk mt.1.cls idx my.1) (hm : mOKV my na ci) (ho : isK M a ci n0) (hna : As.length = na) (hst : As.reverse ++ vR a :: S = St) (hS4 : wS S ≤ 8) (hd1 : 1 ≤ d) (hk : kc1 ≤ kc) (hs : ns1 ≤ ns)
    (hcl : Cl X (d - 1) kc1 ns1 my (vR a :: As) M Q') (kk : ∀ (r : Option AV) (M' : Mem), Q' r M' → WA X d (kc - kc1) (ns - ns1) mt n L (r.toList ++ S) M' Q) : WA X d kc ns mt pc L St M Q := by
  obtain ⟨hd, rfl⟩ := hd
  subst hst hna
  intro p e R s m args below meth c H locs cells slots ls E hL hR
  obtain ⟨⟨w1, w2, w3⟩, w4, w5, w6, w7⟩ := hm
  simp only [Bool.and_eq_true, decide_eq_true_eq] at w3
  have h0 := isK_pos hR ho (by omega)
  have hw : (wsM X.2.2.2 X.2.2.1 M)[a - 1]? = some (X.2.2.2 + a, .inr (ci, fv X.2.2.2 M a ci)) := by rw [ws_at h0 (isK_lt ho), cE_obj ho w7]
  have e1 : cv X.2.2.2 (vR a) = .ref (X.2.2.2 + a) := rO_pos h0
  have hrecv := va_recv E.2.2.2.2.2.1.2.1 hR.2.2 (cls_at w7) hw
  have hpre : PreV s H my.1.cls (X.2.2.2 + a) (PX X (vR a :: As) M) (As.map (cv X.2.2.2)) := ⟨PX.blind, by rw [w6]; exact hrecv, fun U hU hW => by have := PX.pre (av := vR a :: As) E hR U hU hW; rw [List.map_cons, e1] at this; exact this⟩
  have hfit : cells + kc1 ≤ R.cells ∧ slots + ns1 ≤ R.slots := ⟨by have := E.2.2.2.1; omega, by have := E.2.2.2.2.1; omega⟩
  have hroom : (rmX (d - 1) kc1 ns1).frames + 1 ≤ R.frames ∧ 8 + (my.2.2.1 + 11) + (rmX (d - 1) kc1 ns1).locals ≤ R.locals := ⟨by show d - 1 + 1 ≤ _; have := E.2.1; omega, by show 8 + (my.2.2.1 + 11) + 64 * (d - 1) ≤ _; have := E.2.2.1; have := w3.2; omega⟩
  have hdd := (⟨w3.1.1.1, w3.1.1.2, w3.1.2⟩ : my.1.cls ≠ "java/lang/invoke/MethodHandle" ∧ my.1.cls ≠ "java/lang/invoke/VarHandle" ∧ (parseMethodDescriptor my.1.desc).map (fun d => d.parameters.length) = some As.length)
  have hts : ∀ w ∈ [Cond.code my.1 my.2.1 my.2.2.1 my.2.2.2], w.before args s = true := fun w q => by cases List.mem_singleton.mp q; exact wd E w2 args
  have hst : ((As.reverse ++ vR a :: S).map (cv X.2.2.2)) = (As.map (cv X.2.2.2)).reverse ++ .ref (X.2.2.2 + a) :: S.map (cv X.2.2.2) := by
    rw [List.map_append, List.map_cons, e1, List.map_reverse]
  have hfix : CallFix p m c mt.2.1 mt.2.2.1 s args [Cond.code my.1 my.2.1 my.2.2.1 my.2.2.2] mt.1.cls := ⟨E.1.1, E.1.2.1, E.1.2.2.2.1, E.1.2.2.2.2.1, hts⟩
  have goOn : va_Run p X.1 e R s m args below meth c H locs cells slots kc1 ns1 (F0 m pc ls ((As.reverse ++ vR a :: S).map (cv X.2.2.2))) (S.map (cv X.2.2.2)) (QX X Q' (Value.ref (X.2.2.2 + a) :: As.map (cv X.2.2.2)).toArray) (AX X) := by
    rcases hl with hl | ⟨host, hl⟩
    · exact va_runV (C := my.1.cls) hfix hcl ⟨callB_of (rm := rmX (d - 1) kc1 ns1) As.length hts (goodCode1 my) rfl rfl rfl (wd E w1 args) (wd E hl args) hdd hroom, wd E w4 args, wd E w5 args⟩ hpre rfl (by simp) hL.1 hst (by show 2 * 0 + _ ≤ 8; have := cat8 (b0 := X.2.2.2) S; omega) hd hfit
    · exact va_runVN (C := my.1.cls) hfix hcl ⟨va_cnB (rm := rmX (d - 1) kc1 ns1) As.length hts (goodCode1 my) rfl rfl rfl (wd E hl #[]) (wd E w1 args) hdd hroom, wd E w4 args, wd E w5 args⟩ hpre rfl (by simp) hL.1 hst (by show 2 * 0 + _ ≤ 8; have := cat8 (b0 := X.2.2.2) S; omega) hd hfit
  refine callGo goOn E.2.2.2.2.2.2 fun r M' H1 locs1 hq hR1 hS1 => ?_
  have := kk r M' hq p e R s m args below meth c H1 locs1 (cells + kc1) (slots + ns1) ls ((E.spend hk hs).on hS1) hL hR1
  rw [List.map_append] at this
  cases r with
  | none => exact this
  | some v => exact this
theorem x_callS {my : MT} {na idx kc1 ns1 : Nat} {As : List AV} {St : List AV} {Q' : Option AV → Mem → Prop} (hd : DC mt.2.1 pc (.invokestatic idx) 3 n) (hl : mlk mt.1.cls idx my.1) (hm : mOKS my na) (hna : As.length = na) (hst : As.reverse ++ S = St) (hS4 : wS S ≤ 8) (hd1 : 1 ≤ d) (hk : kc1 ≤ kc) (hs : ns1 ≤ ns)
    (hcl : Cl X (d - 1) kc1 ns1 my As M Q') (kk : ∀ (r : Option AV) (M' : Mem), Q' r M' → WA X d (kc - kc1) (ns - ns1) mt n L (r.toList ++ S) M' Q) : WA X d kc ns mt pc L St M Q := by
  obtain ⟨hd, rfl⟩ := hd
  subst hst hna
  intro p e R s m args below meth c H locs cells slots ls E hL hR
  obtain ⟨⟨w1, w2, w3⟩, w4⟩ := hm
  simp only [Bool.and_eq_true, decide_eq_true_eq] at w3
  have hpre : PreS s H (PX X As M) (As.map (cv X.2.2.2)) := ⟨PX.blind, PX.pre (av := As) E hR⟩
  have hfit : cells + kc1 ≤ R.cells ∧ slots + ns1 ≤ R.slots := ⟨by have := E.2.2.2.1; omega, by have := E.2.2.2.2.1; omega⟩
  have hroom : (rmX (d - 1) kc1 ns1).frames + 1 ≤ R.frames ∧ 8 + (my.2.2.1 + 11) + (rmX (d - 1) kc1 ns1).locals ≤ R.locals := ⟨by show d - 1 + 1 ≤ _; have := E.2.1; omega, by show 8 + (my.2.2.1 + 11) + 64 * (d - 1) ≤ _; have := E.2.2.1; have := w3.2; omega⟩
  have hdd := (⟨w3.1.1.1, w3.1.1.2, w3.1.2⟩ : my.1.cls ≠ "java/lang/invoke/MethodHandle" ∧ my.1.cls ≠ "java/lang/invoke/VarHandle" ∧ (parseMethodDescriptor my.1.desc).map (fun d => d.parameters.length) = some As.length)
  have hts : ∀ w ∈ [Cond.code my.1 my.2.1 my.2.2.1 my.2.2.2], w.before args s = true := fun w q => by cases List.mem_singleton.mp q; exact wd E w2 args
  have hst : ((As.reverse ++ S).map (cv X.2.2.2)) = (As.map (cv X.2.2.2)).reverse ++ S.map (cv X.2.2.2) := by
    rw [List.map_append, List.map_reverse]
  have hfix : CallFix p m c mt.2.1 mt.2.2.1 s args [Cond.code my.1 my.2.1 my.2.2.1 my.2.2.2] mt.1.cls := ⟨E.1.1, E.1.2.1, E.1.2.2.2.1, E.1.2.2.2.2.1, hts⟩
  have goOn : va_Run p X.1 e R s m args below meth c H locs cells slots kc1 ns1 (F0 m pc ls ((As.reverse ++ S).map (cv X.2.2.2))) (S.map (cv X.2.2.2)) (QX X Q' (As.map (cv X.2.2.2)).toArray) (AX X) := by
    rcases hl with hl | ⟨host, hl⟩
    · exact va_runS hfix hcl ⟨callB_of (rm := rmX (d - 1) kc1 ns1) As.length hts (goodCode1 my) rfl rfl rfl (wd E w1 args) (wd E hl args) hdd hroom, wd E w4 args⟩ hpre rfl (by simp) hL.1 hst (by show 2 * 0 + _ ≤ 8; have := cat8 (b0 := X.2.2.2) S; omega) hd hfit
    · exact va_runSN hfix hcl ⟨va_cnB (rm := rmX (d - 1) kc1 ns1) As.length hts (goodCode1 my) rfl rfl rfl (wd E hl #[]) (wd E w1 args) hdd hroom, wd E w4 args, trivial⟩ hpre rfl (by simp) hL.1 hst (by show 2 * 0 + _ ≤ 8; have := cat8 (b0 := X.2.2.2) S; omega) hd hfit
  refine callGo goOn E.2.2.2.2.2.2 fun r M' H1 locs1 hq hR1 hS1 => ?_
  have := kk r M' hq p e R s m args below meth c H1 locs1 (cells + kc1) (slots + ns1) ls ((E.spend hk hs).on hS1) hL hR1
  rw [List.map_append] at this
  cases r with
  | none => exact this
  | some v => exact this
theorem x_callI {my : MT} {na ci a n0 idx kc1 ns1 : Nat} {As : List AV} {St : List AV} {Q' : Option AV → Mem → Prop} (hd : DC mt.2.1 pc (.invokespecial idx) 3 n) (hl : mlk mt.1.cls idx my.1) (hm : mOKI my na ci) (ho : isK M a ci n0) (hna : As.length = na) (hst : As.reverse ++ vR a :: S = St) (hS4 : wS S ≤ 8) (hd1 : 1 ≤ d) (hk : kc1 ≤ kc) (hs : ns1 ≤ ns)
    (hcl : Cl X (d - 1) kc1 ns1 my (vR a :: As) M Q') (kk : ∀ (r : Option AV) (M' : Mem), Q' r M' → WA X d (kc - kc1) (ns - ns1) mt n L (r.toList ++ S) M' Q) : WA X d kc ns mt pc L St M Q := by
  obtain ⟨hd, rfl⟩ := hd
  subst hst hna
  intro p e R s m args below meth c H locs cells slots ls E hL hR
  obtain ⟨y, bytes, maxL, ret⟩ := my
  obtain ⟨⟨w1, w2, w3⟩, w4, w5, w6, w7⟩ := hm
  dsimp only at w1 w2 w3 w4 w5 w6 w7 hl
  subst w6
  simp only [Bool.and_eq_true, decide_eq_true_eq] at w3
  have h0 := isK_pos hR ho (by omega)
  have e1 : cv X.2.2.2 (vR a) = .ref (X.2.2.2 + a) := rO_pos h0
  have hpre : PreS s H (PX X (vR a :: As) M) (.ref (X.2.2.2 + a) :: As.map (cv X.2.2.2)) := ⟨PX.blind, fun U hU hW => by have := PX.pre (av := vR a :: As) E hR U hU hW; rw [List.map_cons, e1] at this; exact this⟩
  have hfit : cells + kc1 ≤ R.cells ∧ slots + ns1 ≤ R.slots := ⟨by have := E.2.2.2.1; omega, by have := E.2.2.2.2.1; omega⟩
  have hroom : (rmX (d - 1) kc1 ns1).frames + 1 ≤ R.frames ∧ 8 + (maxL + 11) + (rmX (d - 1) kc1 ns1).locals ≤ R.locals := ⟨by show d - 1 + 1 ≤ _; have := E.2.1; omega, by show 8 + (maxL + 11) + 64 * (d - 1) ≤ _; have := E.2.2.1; have := w3.2; omega⟩
  have hdd := (⟨w3.1.1.1, w3.1.1.2, w3.1.2⟩ : y.cls ≠ "java/lang/invoke/MethodHandle" ∧ y.cls ≠ "java/lang/invoke/VarHandle" ∧ (parseMethodDescriptor y.desc).map (fun d => d.parameters.length) = some As.length)
  have hts : ∀ w ∈ [Cond.code y bytes maxL none], w.before args s = true := fun w q => by cases List.mem_singleton.mp q; exact wd E w2 args
  have hst : ((As.reverse ++ vR a :: S).map (cv X.2.2.2)) = (As.map (cv X.2.2.2)).reverse ++ .ref (X.2.2.2 + a) :: S.map (cv X.2.2.2) := by
    rw [List.map_append, List.map_cons, e1, List.map_reverse]
  have hfix : CallFix p m c mt.2.1 mt.2.2.1 s args [Cond.code y bytes maxL none] mt.1.cls := ⟨E.1.1, E.1.2.1, E.1.2.2.2.1, E.1.2.2.2.2.1, hts⟩
  have goOn : va_Run p X.1 e R s m args below meth c H locs cells slots kc1 ns1 (F0 m pc ls ((As.reverse ++ vR a :: S).map (cv X.2.2.2))) (S.map (cv X.2.2.2)) (QX X Q' (Value.ref (X.2.2.2 + a) :: As.map (cv X.2.2.2)).toArray) (AX X) := by
    rcases hl with hl | ⟨host, hl⟩
    · exact va_runI hfix hcl ⟨callB_of (rm := rmX (d - 1) kc1 ns1) As.length hts (goodCode1 (y, bytes, maxL, none)) rfl rfl rfl (wd E w1 args) (wd E hl args) hdd hroom, w5, wd E w4 args⟩ hpre rfl (by simp) hL.1 hst (by show 2 * 0 + _ ≤ 8; have := cat8 (b0 := X.2.2.2) S; omega) hd hfit
    · exact va_runIN hfix hcl ⟨va_cnB (rm := rmX (d - 1) kc1 ns1) As.length hts (goodCode1 (y, bytes, maxL, none)) rfl rfl rfl (wd E hl #[]) (wd E w1 args) hdd hroom, w5, wd E w4 args⟩ hpre rfl (by simp) hL.1 hst (by show 2 * 0 + _ ≤ 8; have := cat8 (b0 := X.2.2.2) S; omega) hd hfit
  refine callGo goOn E.2.2.2.2.2.2 fun r M' H1 locs1 hq hR1 hS1 => ?_
  have := kk r M' hq p e R s m args below meth c H1 locs1 (cells + kc1) (slots + ns1) ls ((E.spend hk hs).on hS1) hL hR1
  rw [List.map_append] at this
  cases r with
  | none => exact this
  | some v => exact this
end CALLS
