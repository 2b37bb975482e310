/-! WHAT IS THROWN, and how it is caught (vx_throwN follows the kit's vx_throw0, and tells more of the heap) -/
section THROWN
variable {p : Program} {l : Launch} {e : Env} {R : Room} {s : State} {m : MethodId} {args : Array Value} {below : List Frame} {meth : Method} {c : Code} {H : Heap} {locs : List Loc} {cells slots : Nat} {Q : State → Prop}
variable {mc ms : Nat} {free : Addr → Prop} {A0 A1 : Nat → Prop} {H0 : Heap} {a : Array Value} {ls : Array Slot} {st0 rest : List Value}
variable {Qc : Array Value → State → Outcome → State → Prop} {XC : String → State → State → Prop}
theorem vx_throwN {cc : ByteArray} {pc : Nat} (hexec : p.tables.exec = Jvm.exec) (hb : c.code = cc) (hl : l.stackTraces = false) {own cls : String} {names : List String} {ik ic mc ms : Nat} {A : Nat → Prop}
    (hown : s.vm.findClass own = some m.cls) (hcls : Bundle.fit cls = true) (hnames : ∀ n ∈ names, Bundle.fit n = true)
    (hk : (Cond.classLink own ik cls).before args s = true) (hini : (Cond.initialized cls).before args s = true) (hat : ∀ w ∈ vx_at0 own ic cls names, w.before args s = true)
    (hgood : ∀ w ∈ Cond.classLink own ik cls :: Cond.initialized cls :: vx_at0 own ic cls names, vx_ot w = true)
    (hU : vx_Zq Bundle.tN "UNASSIGNED_STACK" Bundle.steD A s s.heap) (hN : vx_Zq Bundle.tN "SUPPRESSED_SENTINEL" Bundle.listD A s s.heap) (hS : va_S A s.heap H locs) (hsize : ls.size = c.maxLocals)
    (d0 : decode cc pc = .ok (.new ik, 3)) (d3 : decode cc (pc + 3) = .ok (.dup, 1)) (d4 : decode cc (pc + 4) = .ok (.invokespecial ic, 3)) (d7 : decode cc (pc + 7) = .ok (.athrow, 1))
    (hout : ∀ x ∈ c.exceptionTable.toList, covers x (pc + 7) = false)
    (hRframes : names.length + 3 < R.frames) (hRlocals : (rest.map fun v => v.category).sum + (13 * (names.length + 1) + 42) ≤ R.locals) (hRcells : cells + 1 ≤ R.cells) (hRslots : slots + 6 ≤ R.slots) (hlocks : meth.locks = false)
    (hx : ∀ t : State, s.vm.Alike t.vm → t.heap.size = H.size + 1 → (∀ q : Nat, q < H.size → t.heap[q]? = H[q]?) → (∃ ce : Cell, t.heap[H.size]? = some ce ∧ ce.vm = .none ∧ s.vm.findClass cls = some ce.cls) → XC cls s t)
    (hf : ∀ z ∈ locs, free z.base) (hc : cells + 1 ≤ mc) (hs : slots + 6 ≤ ms) :
    W p l e R s m args below meth c H locs cells slots (vx_MQ below Qc XC args s mc ms free) (F0 m pc ls rest) := by
  intro T hT X
  have htr : e.platform.stackTraces = false := (show e.platform.stackTraces = l.stackTraces by rw [X.admits.platform]).trans hl
  have Y := vx_rebase X (R' := { frames := R.frames, locals := R.locals, cells := 1, slots := 6 }) (Nat.le_refl _) (Nat.le_refl _) hRcells hRslots
  obtain ⟨s', hA⟩ : ∃ z, z = (T.setVm s.vm).setFrames (.invoking m args :: below) := ⟨_, rfl⟩
  rw [← hA] at Y
  have hvm : s'.vm = s.vm := by rw [hA]; rfl
  have hhp : s'.heap = H := by rw [hA]; exact hT
  have hW0 : s.WarmedH s'.vm := by rw [hvm]; exact State.WarmedH.refl s
  have hat' : ∀ w ∈ vx_at0 own ic cls names, w.before args s' = true := fun w hw => vx_ot_at hW0 hvm.symm (hgood w (List.mem_cons_of_mem _ (List.mem_cons_of_mem _ hw))) (hat w hw)
  have hk' : (Cond.classLink own ik cls).before args s' = true := vx_ot_at hW0 hvm.symm (hgood _ List.mem_cons_self) hk
  have hini' : (Cond.initialized cls).before args s' = true := vx_ot_at hW0 hvm.symm (hgood _ (List.mem_cons_of_mem _ List.mem_cons_self)) hini
  have hU' : vx_Zq Bundle.tN "UNASSIGNED_STACK" Bundle.steD A s' s'.heap := by rw [hhp]; exact vx_Zq.moved hW0.alike (hU.kept hS.2.1)
  have hN' : vx_Zq Bundle.tN "SUPPRESSED_SENTINEL" Bundle.listD A s' s'.heap := by rw [hhp]; exact vx_Zq.moved hW0.alike (hN.kept hS.2.1)
  have h : ∀ w ∈ Bundle.ownAtoms0 own ic cls names, w.before args s' = true := vx_own hat' (vx_isRefq hU'.1) (vx_isRefq hN'.1) hU'.2.word hN'.2.word
  have hown' : s'.vm.findClass own = some m.cls := by rw [hvm]; exact hown
  have hins : (Cond.instantiable cls 6).before args s' = true := h _ (by simp [Bundle.ownAtoms0])
  obtain ⟨vm₁, cX, kX, hfX, hkX, -, -, X₁, st1⟩ := Y.newCold hexec (own := own) (C := cls) (index := ik) (n := 6) hown' hk' hins hini'
    (g := F0 m pc ls rest) rfl (by rw [hb]; exact d0) (Nat.le_refl _) (Nat.le_refl _)
  generalize hT1 : (T.setVm vm₁).pushCell { cls := cX, slots := kX.instanceTypes.map defaultValue, vm := .none } = T1 at X₁ st1
  have hcat : (Value.ref T.heap.size).category = 1 := rfl
  have hcellA : T1.heap[T.heap.size]? = some (freshCell cX kX) := by rw [← hT1]; exact State.heap_pushCell_size _ _
  have d3' : decode c.code (pc + 3) = .ok (.dup, 1) := by rw [hb]; exact d3
  obtain ⟨U, hsteps, hrun, hend, hW, hsame, ce, hce, hO⟩ := X₁.ctorThrow0 hexec htr (own := own) (cls := cls) (names := names) (ic := ic) hown' hcls hnames h (fun x hx => nomatch hx) hfX hkX hcellA (by rw [hhp, hT]; exact Nat.le_refl _)
    (g := { method := m, pc := pc + 4, locals := ls, stack := .ref T.heap.size :: .ref T.heap.size :: rest, locked := none }) rfl hsize rfl rfl (rest := rest) rfl
    (by rw [hb]; exact d4) (by rw [hb]; exact d7) hout hRframes (by simp only [List.map_cons, List.sum_cons, hcat]; omega) hlocks
  obtain ⟨f1, f2⟩ := vx_frame hsame
  rw [hhp] at f1 f2
  have hWs : s.WarmedH U.vm := State.WarmedH.trans hW0 hW
  have hcl : s.vm.findClass cls = some ce.cls := by
    have h9 := hO.cls
    rw [hvm] at h9
    exact h9
  have hsz : U.heap.size = H.size + 1 := by
    have h3 : U.heap.size ≤ s'.heap.size + (0 + 1) := hsame.2.2.1
    have h4 := (Array.getElem?_eq_some_iff.mp hce).1
    rw [hhp] at h3
    rw [hT] at h4
    omega
  have hce9 : U.heap[H.size]? = some ce := by rw [← hT]; exact hce
  have hall : s.sameButNew ({ U with vm := s.vm } : State) locs mc ms := by
    subst hA
    obtain ⟨e1, e2⟩ := hsame
    rw [State.setFrames_setFrames] at e1
    have h2 : (T.setVm s.vm).sameButNew ({ U with vm := s.vm } : State) [] (0 + 1) (0 + 6) := ⟨e1, e2⟩
    have h3 := X.same.trans h2
    rw [List.append_nil] at h3
    exact h3.mono hc hs
  refine ⟨U, ?_, .threw T.heap.size, hrun, hend, Or.inr ⟨T.heap.size, rfl, cls, ce, locs, hx U hWs.alike hsz (fun q hq => f2 q hq (fun z hz => nomatch hz)) ⟨ce, hce9, hO.vm, hcl⟩, hce, hO.vm, hcl, hWs, hall, hf⟩⟩
  refine st1 _ ?_
  show Steps p.tables e below (T1.setTop { method := m, pc := pc + 3, locals := ls, stack := .ref T.heap.size :: rest, locked := none }) _
  jvm_step X₁.here [X₁.here.top, hexec, d3', Value.category]
  exact hsteps
end THROWN
def nmsX : List String := ["java/lang/RuntimeException", "java/lang/Exception"]
set_option maxRecDepth 100000 in
theorem exc_at : ∀ w ∈ Cond.classLink "TwoPencils" 155 nmX :: Cond.initialized nmX :: vx_at0 "TwoPencils" 157 nmX nmsX, w ∈ lw_tbl ∧ okw w = true ∧ vx_ot w = true := by decide +kernel
/-- what holds where it is thrown -/
def XX (X : Cx) (P : Mem → Prop) : String → State → State → Prop := fun E st t => ∃ u : Mem, P u ∧ E = nmX ∧ Rl X u t.heap ∧ va_F (AX X) st t
def CX (X : Cx) (d kc ns : Nat) (mt : MT) (av : List AV) (M : Mem) (Q : Option AV → Mem → Prop) (P : Mem → Prop) : Prop :=
  vx_Met X.1 mt.1 [Cond.code mt.1 mt.2.1 mt.2.2.1 mt.2.2.2] (rmX d kc ns) (PX X av M) (QX X Q) (XX X P) kc ns (AX X)
section EXC
variable {X : Cx} {d kc ns : Nat} {mt : MT} {pc n : Nat} {L L' : List (Option AV)} {S : List AV} {M : Mem} {Q : Option AV → Mem → Prop} {P : Mem → Prop}
theorem WV.wa {p : Program} {e : Env} {R : Room} {s : State} {m : MethodId} {args : Array Value} {below : List Frame} {meth : Method} {c : Code} {Z : Array Slot → Prop} (h : WA X d kc ns mt pc L S M Q) : WV (p, e, R, s, m, args, below, meth, c, MQ below (QX X Q) args s R.cells R.slots (AX X)) Z X d kc ns mt pc L S M Q :=
  fun H locs cells slots ls E hL _ hR => h p e R s m args below meth c H locs cells slots ls E hL hR
theorem WV.wx {p : Program} {e : Env} {R : Room} {s : State} {m : MethodId} {args : Array Value} {below : List Frame} {meth : Method} {c : Code} {Z : Array Slot → Prop} {XC : String → State → State → Prop} (h : WA X d kc ns mt pc L S M Q) : WV (p, e, R, s, m, args, below, meth, c, vx_MQ below (QX X Q) XC args s R.cells R.slots (AX X)) Z X d kc ns mt pc L S M Q :=
  fun H locs cells slots ls E hL _ hR => vx_ret (h p e R s m args below meth c H locs cells slots ls E hL hR)
/-- a body's entry -/
theorem entL {b0 : Nat} {av : List AV} {k N : Nat} (hlen : (argL av).length + k = N) (hL : argL av ++ List.replicate k none = L) : hasL b0 (lg_sl (av.map (cv b0)) ++ List.replicate (N - (lg_sl (av.map (cv b0))).length) Slot.unset).toArray N L := by
  have hle : (lg_sl (av.map (cv b0))).length ≤ N := by rw [argL_len]; omega
  have hl := lv_entry (av.map (cv b0)) hle
  refine ⟨hl.1, hl.2.1, fun i v hi => ?_⟩
  subst hL
  rcases Nat.lt_or_ge i (argL av).length with q | q
  · rw [List.getElem?_append_left q] at hi
    have := argL_args (b0 := b0) av 0 i v hi
    rw [Nat.zero_add] at this
    exact hl.2.2 _ this
  · rw [List.getElem?_append_right q, List.getElem?_replicate] at hi
    split at hi <;> cases hi
theorem CX.intro {av : List AV} {k : Nat} (hpl : plainName mt.1.cls = true) (hlen : (argL av).length + k = mt.2.2.1) (hL : argL av ++ List.replicate k none = L)
    (h : ∀ (p : Program) (e : Env) (s : State) (m : MethodId) (args : Array Value) (below : List Frame) (meth : Method) (c : Code), (∀ x ∈ c.exceptionTable.toList, False) → WV (p, e, rmX d kc ns, s, m, args, below, meth, c, vx_MQ below (QX X Q) (XX X P) args s kc ns (AX X)) (fun _ => True) X d kc ns mt 0 L [] M Q) : CX X d kc ns mt av M Q P := by
  refine vx_ofW (cc := mt.2.1) (maxL := mt.2.2.1) (ret := mt.2.2.2) hpl rfl ?_
  intro p e s m args below meth c s₁ B hml ht hv
  obtain ⟨rfl, hKX, hR⟩ := hv
  rw [lg_entry_eq]
  exact h p e s m _ below meth c ht s.heap [] 0 0 _ ⟨⟨B.exec, B.bytes, B.returns, hml, findClass_of_methodNamed B.named, B.notSynchronized, (name_of_methodNamed B.named B.method).1⟩, Nat.le_refl _, Nat.le_refl _, by simp [rmX], by simp [rmX], hKX, va_S.rf⟩ (entL hlen hL) trivial hR
/-- new, dup, the constructor, athrow -/
theorem z_throw {p : Program} {e : Env} {R : Room} {s : State} {m : MethodId} {args : Array Value} {below : List Frame} {meth : Method} {c : Code} {Z : Array Slot → Prop} (hfl : X.1.stackTraces = false) (ht : ∀ x ∈ c.exceptionTable.toList, False) (hd : 8 ≤ d) (hkc : 1 ≤ kc) (hns : 6 ≤ ns) (hS8 : wS S ≤ 8) (hP : P (nw M 21 0)) :
    WV (p, e, R, s, m, args, below, meth, c, vx_MQ below (QX X Q) (XX X P) args s R.cells R.slots (AX X)) Z X d kc ns m_X10_parish 34 L S M Q := by
  intro H locs cells slots ls E hL hZ hR
  have hK := E.2.2.2.2.2.1.2.1
  have hKn := hK.1 12 _ cls_x
  have hwd : ∀ w ∈ Cond.classLink "TwoPencils" 155 nmX :: Cond.initialized nmX :: vx_at0 "TwoPencils" 157 nmX nmsX, w.before args s = true := fun w hw => wd E (exc_at w hw).1 args (exc_at w hw).2.1
  have hSS := E.2.2.2.2.2.2
  refine vx_throwN (cc := m_X10_parish.2.1) (pc := 34) (own := "TwoPencils") (cls := nmX) (names := nmsX) (ik := 155) (ic := 157) (mc := R.cells) (ms := R.slots) (A := AX X) E.1.1 E.1.2.1 hfl E.1.2.2.2.2.1 (by decide +kernel) (by decide +kernel) (hwd _ List.mem_cons_self) (hwd _ (List.mem_cons_of_mem _ List.mem_cons_self)) (fun w hw => hwd w (List.mem_cons_of_mem _ (List.mem_cons_of_mem _ hw))) (fun w hw => (exc_at w hw).2.2) E.2.2.2.2.2.1.2.2.2.2.1 E.2.2.2.2.2.1.2.2.2.2.2 hSS (by rw [E.1.2.2.2.1]; exact hL.1) (tk K_X10_parish 17 rfl).1 (tk K_X10_parish 18 rfl).1 (tk K_X10_parish 19 rfl).1 (tk K_X10_parish 20 rfl).1 (fun x hx => (ht x hx).elim) ?_ ?_ ?_ ?_ E.1.2.2.2.2.2.1 ?_ hSS.2.2 ?_ ?_
  · show 2 + 3 < R.frames
    have := E.2.1; omega
  · show _ + (13 * (2 + 1) + 42) ≤ R.locals
    have := cat8 (b0 := X.2.2.2) S; have := E.2.2.1; omega
  · have := E.2.2.2.1; omega
  · have := E.2.2.2.2.1; omega
  · intro t hal hsz hold hce
    obtain ⟨ce, h1, h2, h3⟩ := hce
    have hcy : ce.cls = X.2.1.1 12 := Option.some.inj (h3.symm.trans hKn.2.1)
    refine ⟨nw M 21 0, hP, rfl, Rl.push (M' := nw M 21 0) (k := 21) (n0 := 0) (e := .inr (12, [])) hR rfl (fun b hb => cE_old (k := 21) (n0 := 0) rfl hb (by unfold nw; funext j; simp [Nat.ne_of_lt hb]) (by unfold nw; funext j; simp [Nat.ne_of_lt hb]) (by unfold nw; funext j; simp [Nat.ne_of_lt hb])) (cE_exc (M := nw M 21 0) (n := 0) (isK_nw (M := M))) hsz hold ⟨_, cls_x, ce, by rw [← hR.1]; exact h1, hcy, h2, fun k hk => absurd hk (Nat.not_lt_zero k)⟩, ?_⟩
    exact ⟨Nat.le_trans hSS.1 (by omega), fun q q1 q2 => (hold q (Nat.lt_of_lt_of_le q1 hSS.1)).trans (hSS.2.1 q q1 q2)⟩
  · have := E.2.2.2.1; omega
  · have := E.2.2.2.2.1; omega
theorem callGoX {p : Program} {e : Env} {R : Room} {s : State} {m : MethodId} {args a : Array Value} {below : List Frame} {meth : Method} {c : Code} {H : Heap} {locs : List Loc} {cells slots mc ms : Nat} {ls : Array Slot} {st0 rest : List Value} {Q' : Option AV → Mem → Prop} {Qf : State → Prop}
    (hr : vx_Run p X.1 e R s m args below meth c H locs cells slots mc ms (F0 m pc ls st0) rest (QX X Q' a) (XX X P) (AX X)) (hS : va_S (AX X) s.heap H locs)
    (kk : ∀ (r : Option AV) (M' : Mem) (H1 : Heap) (locs1 : List Loc), Q' r M' → Rl X M' H1 → va_S (AX X) s.heap H1 locs1 → W p X.1 e R s m args below meth c H1 locs1 (cells + mc) (slots + ms) Qf (F0 m (pc + 3) ls ((r.map (cv X.2.2.2)).toList ++ rest)))
    (kx : ∀ (q : Addr) (ce : Cell) (M' : Mem) (H1 : Heap) (locs1 : List Loc), P M' → Rl X M' H1 → va_S (AX X) s.heap H1 locs1 → H1[q]? = some ce → ce.vm = .none → s.vm.findClass nmX = some ce.cls → vx_W p X.1 e R s m args below meth c H1 locs1 (cells + mc) (slots + ms) Qf (F0 m pc ls rest) q) : W p X.1 e R s m args below meth c H locs cells slots Qf (F0 m pc ls st0) := by
  intro T hT X9
  rcases hr T hT X9 with ⟨v, st₀, t, T', L9, h0, X', hL, e1, e2, ⟨⟨r, M', hv, hq, hR⟩, hz, hk⟩, st⟩ | ⟨q, st₀, t, T', L9, E, ce, h0, X', hL, e1, e2, ⟨u, hp, rfl, hR, hz, hk⟩, hce, hcv, hcl, st⟩
  · cases hv
    rw [h0] at hz hk
    obtain ⟨t2, a1, b1⟩ := kk r M' T'.heap (locs ++ L9) hq (by rw [e1]; exact hR)
      ⟨Nat.le_trans hS.1 (by rw [e1]; exact hz), fun q h1 h2 => by rw [e1, hk q (Nat.lt_of_lt_of_le h1 hS.1) h2]; exact hS.2.1 q h1 h2, fun q hq => by
        rcases List.mem_append.mp hq with h | h
        · exact hS.2.2 q h
        · exact hL q h⟩ T' rfl X'
    exact ⟨t2, st t2 a1, b1⟩
  · rw [h0] at hz hk
    obtain ⟨t2, a1, b1⟩ := kx q ce u T'.heap (locs ++ L9) hp (by rw [e1]; exact hR)
      ⟨Nat.le_trans hS.1 (by rw [e1]; exact hz), fun q h1 h2 => by rw [e1, hk q (Nat.lt_of_lt_of_le h1 hS.1) h2]; exact hS.2.1 q h1 h2, fun q hq => by
        rcases List.mem_append.mp hq with h | h
        · exact hS.2.2 q h
        · exact hL q h⟩ (by rw [e1]; exact hce) hcv hcl T' rfl X'
    exact ⟨t2, st.trans a1, b1⟩
end EXC
