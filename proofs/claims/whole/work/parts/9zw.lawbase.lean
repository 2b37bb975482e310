/-! THE CLAIM OUT OF ONE WALK OF THE LAW'S BODY. Your part is whole_start (and what it stands on); all else here is the same for every law, but numbers. -/
def R_law : String := "TwoPencilsLaw"
def lw_P (b : Addr) (xs : List Int32) (args : Array Value) (s : State) : Prop := args = #[.ref b] ∧ s.IntsAt b xs ∧ xs.length ≤ 3072 ∧ (Jvm.Cond.and given_1 narrow_1).before args s = true
def lw_Q (_ : Array Value) (s : State) (o : Outcome) (t : State) : Prop := o = .returned (some (.int 1)) ∧ Framed s o t [] 601024 7293034
def lw_Z (below : List Frame) (a : Array Value) (s : State) : State → Prop := fun t => ∃ o, t.status = .running ∧ Ended t below o ∧ lw_Q a s o t
/-- the law's own end, with 1 on the stack, nothing written that was there before, its room as the claim has it -/
theorem lw_ret {p : Program} {l : Launch} {e : Env} {s : State} {m : MethodId} {below : List Frame} {meth : Method} {c : Code} {b : Nat} (hx : p.tables.exec = Jvm.exec) (hb : c.code = code) (hr : meth.sig.returnType = ret) (hlocks : meth.locks = false) {pc : Nat} {H : Heap} {ls : Array Slot} (hdg : decode code pc = .ok (.ireturn, 1)) : W p l e room_1 s m #[Value.ref b] below meth c H [] 601024 7293034 (lw_Z below #[Value.ref b] s) (F0 m pc ls [.int 1]) := by
  intro T hT X
  obtain ⟨fs, hret, hrun, hended, hW, hframe⟩ := X.leave (v := some (.int 1)) (hlocks := hlocks) (fun h => by rw [hr] at h; cases h)
  have hmeth' : T.vm.method? m = some meth := X.method'
  refine ⟨T.setFrames fs, ?_, .returned (some (.int 1)), hrun, hended, rfl, ⟨_, rfl⟩, hW, hframe⟩
  jvm_step X.here [X.here.top, hx, hb, hdg, hmeth', hr, ret, narrow_b1]
  (try refine ⟨rfl, ?_⟩); (try refine ⟨rfl, ?_⟩)
  first | (intro acts; rw [hret _ acts rfl rfl rfl]) | rw [hret _ _ rfl rfl rfl]
  exact Steps.refl _
/-- what holds at the law's entry: the machine, the code, the tables' words (any of lw_tbl by 'hts w (by decide +kernel)'), the script of L ints xs at the cell b, what the Statement gives of the start (any of its parts by flat_of_before) -/
def lw_At (p : Program) (s : State) (m : MethodId) (meth : Method) (c : Code) (b L : Nat) (xs : Nat → Int32) : Prop :=
  p.tables.exec = Jvm.exec ∧ c.code = code ∧ meth.sig.returnType = ret ∧ c.maxLocals = 7 ∧ s.vm.findClass R_law = some m.cls ∧ (∀ w ∈ lw_tbl, w.before #[Value.ref b] s = true) ∧ va_X b L xs s s.heap ∧ b < s.heap.size ∧ meth.locks = false ∧ (Jvm.Cond.and given_1 narrow_1).before #[Value.ref b] s = true ∧ meth.name = "law"
section LBASE
variable {F : Fx} {X : Cx} {d kc ns b Ls i n pc : Nat} {L : List (Option AV)} {S : List AV} {M B : Mem} {s : StT} {T : AdT} {Q : Option AV → Mem → Prop} {xs : Nat → Int32}
theorem z_lawret {p : Program} {e : Env} {st : State} {m : MethodId} {below : List Frame} {meth : Method} {c : Code} {Z : Array Slot → Prop} (hd : DC m_L_law.2.1 pc .ireturn 1 n) (hb : st.heap.size ≤ X.2.2.2 + 1) : WV (p, e, room_1, st, m, #[Value.ref b], below, meth, c, lw_Z below #[Value.ref b] st) Z X d kc ns m_L_law pc L [vI (nI 1)] M Q := by
  intro H locs cells slots ls E hL hZ hR
  refine va_forget (fun q hq => ?_) ?_
  · have h1 : X.2.2.2 < q.base := E.2.2.2.2.2.2.2.2 q hq
    omega
  · refine W.widen (k := 601024) (n := 7293034) ?_ ?_ ?_
    · have h1 : cells + kc ≤ 601024 := E.2.2.2.1
      omega
    · have h1 : slots + ns ≤ 7293034 := E.2.2.2.2.1
      omega
    · exact lw_ret E.1.1 E.1.2.1 E.1.2.2.1 E.1.2.2.2.2.2.1 hd.1
/-! what stays -/
theorem RI.ofr (h : RI M s) (hO : OFr M B) : RI B s := by
  have hE := hO.2.2
  have hS := h.1.ext hE
  have hF : Fr (fun a _ => a < 75 ∨ 105 ≤ a) M (B.1, M.2) := ⟨fun a k q => (hO.2.1 a k (by omega) (by omega)).1, rfl⟩
  have h2 : RI (B.1, M.2) s := h.fr hF (fun a k q => by omega)
  exact ⟨hS, h2.2⟩
theorem CI.rf (h : CI M s T) (hF0 : Fr rfS M B) : CI B s T := by
  have hE := hF0.ext
  have hF : Fal rfS (fun _ _ => False) M B := (hF0.rr).al
  obtain ⟨⟨hTp, hSO⟩, hk, ⟨⟨c6, c7, c8⟩, cl, cp, cg⟩, hld, hpr, hga, ⟨h18, hmc⟩, hmv, han, hse⟩ := h
  have l90 : 105 ≤ nx M := hse.2.2.2.2
  have i : ∀ b k, b < 75 → mI B b k = mI M b k := fun b k hb => hF0.at (by unfold rfS; omega)
  have r : ∀ b k, mR B b k = mR M b k := fun b k => by unfold mR; rw [hF0.2]
  have nS : ∀ b k y, aOw T b = y → y ≠ 0 → ¬ rfS b k := fun b k y h1 h2 w => by
    have := hse.lo h1 h2
    unfold rfS at w; omega
  have hnx : nx B = nx M := by unfold nx; rw [hF0.2]
  refine ⟨⟨hTp.ext hE, hSO⟩, ⟨hk.1.ext hE, (i _ _ (by decide)).trans hk.2.1, hk.2.2.1, fun k hk2 => ⟨(i _ _ (by decide)).trans (hk.2.2.2 k hk2).1, (hk.2.2.2 k hk2).2⟩⟩, ⟨⟨(i _ _ (by decide)).trans c6, (i _ _ (by decide)).trans c7, (i _ _ (by decide)).trans c8⟩, fun l hl => (r _ _).trans (cl l hl), fun p hp => (r _ _).trans (cp p hp), fun g hg => (r _ _).trans (cg g hg)⟩, fun l hl => ?_, fun p hp => ?_, fun g hg => ?_, ⟨(i _ _ (by decide)).trans h18, fun k hk2 => ?_⟩, ⟨⟨by rw [r, hnx]; exact hmv.1.1, by rw [r, hnx]; exact hmv.1.2⟩, fun l p ot g hl hp hg e1 e2 e3 e4 => ?_⟩, fun l p w hl hp hw => ?_, by rw [hnx]; exact hse⟩
  · obtain ⟨o1, o2, o3⟩ := hse.2.1 l hl
    refine (hld l hl).al hF hE (fun b k q1 q2 => nS b k (100 + l) (by rw [← o1 (b - aLa T l) (by omega)]; congr 1; omega) (by omega)) (fun k => id) (fun q hq k => ?_)
    obtain ⟨⟨w1, w2⟩, w3, w4⟩ := o3 q hq
    exact ⟨nS _ k _ w1 (by omega), nS _ k _ w2 (by omega)⟩
  · obtain ⟨o1, o2⟩ := hse.2.2.1 p hp
    exact (hpr p hp).al hF hE (fun b k q1 q2 => nS b k (200 + p) (by rw [← o1 (b - aPa T p) (by omega)]; congr 1; omega) (by omega))
  · obtain ⟨o1, o2⟩ := hse.2.2.2.1 g hg
    exact (hga g hg).al hF hE (fun b k q1 q2 => nS b k (300 + g) (by rw [← o1 (b - aGa T g) (by omega)]; congr 1; omega) (by omega)) ⟨id, id⟩
  · obtain ⟨k1, k2, k3⟩ := hmc k hk2
    exact ⟨(r _ _).trans k1, k2.ext hE, (i _ _ (by omega)).trans k3⟩
  · rw [r] at e1 e2
    rw [i _ _ (by decide)] at e3 e4
    exact (hmv.2 l p ot g hl hp hg e1 e2 e3 e4).eq (fun k => i _ _ (by decide)) (fun k => i _ _ (by decide))
  · rw [i _ _ (by decide)]; exact han l p w hl hp hw
theorem sepX.up {k k' : Nat} (h : sepX k s T) (hk : k ≤ k') : sepX k' s T := by
  obtain ⟨h1, h2, h3, h4, h5⟩ := h
  refine ⟨h1, fun l hl => ?_, fun p hp => ⟨(h3 p hp).1, by have := (h3 p hp).2; omega⟩, fun g hg => ⟨(h4 g hg).1, by have := (h4 g hg).2; omega⟩, by omega⟩
  obtain ⟨a, b, c⟩ := h2 l hl
  refine ⟨a, by omega, fun q hq => ?_⟩
  obtain ⟨d1, d2, d3, d4⟩ := c q hq
  exact ⟨d1, d2, by omega, by omega⟩
theorem CI.made {k0 n0 : Nat} (h : CI M s T) : CI (nw M k0 n0) s T ∧ OFr M (nw M k0 n0) := by
  have hF : Fal (ixS T 7) (ixT T 7) M (nw M k0 n0) := Fal.nw
  obtain ⟨⟨o1, o2, o3, o4, o5, o6, o7, o8, o9⟩, o10⟩ := h.old (x := 7) (by decide) hF ExtN
  exact ⟨⟨⟨o1, h.1.2⟩, o2, o3, fun l hl => o4 l hl (by omega), o5, fun g hg => o6 g hg (by omega), o7, o8, o9, h.2.2.2.2.2.2.2.2.2.up o10.1⟩, o10⟩
theorem CI.sJ {a k : Nat} {v : Int64} (h : CI M s T) : CI (sJ M a k v) s T := by
  obtain ⟨m1, m2, m3, m4⟩ := M
  exact h
theorem RI.sJ {a k : Nat} {v : Int64} (h : RI M s) : RI (sJ M a k v) s := by
  obtain ⟨m1, m2, m3, m4⟩ := M
  exact h
/-! room -/
def uc (s : StT) (T : AdT) (l : Nat) : Nat := if l < sNl s ∧ (aRm T l).isSome = true then 0 else 1
def uS (s : StT) (T : AdT) : Nat := uc s T 0 + uc s T 1 + uc s T 2 + uc s T 3 + uc s T 4 + uc s T 5
def rmC (s : StT) (T : AdT) : Nat := 12 * (6 - sNl s) + 3 * uS s T + 3 * (8 - sNp s) + 5 * (8 - sNg s)
def rmN (s : StT) (T : AdT) : Nat := 2200 * (6 - sNl s) + 131100 * uS s T + 10 * (8 - sNp s) + 44 * (8 - sNg s)
def BU (s : StT) (T : AdT) (n kc ns : Nat) : Prop := rmC s T + n ≤ kc ∧ rmN s T + 6 * n ≤ ns
theorem uc_mono {s' : StT} {T' : AdT} (hl : sNl s ≤ sNl s') (hr : ∀ l, l < sNl s → (aRm T l).isSome = true → (aRm T' l).isSome = true) (l : Nat) : uc s' T' l ≤ uc s T l := by
  unfold uc
  by_cases h : l < sNl s ∧ (aRm T l).isSome = true
  · rw [if_pos h, if_pos ⟨by omega, hr l h.1 h.2⟩]; exact Nat.le_refl _
  · rw [if_neg h]; split <;> omega
theorem uS_mono {s' : StT} {T' : AdT} (hl : sNl s ≤ sNl s') (hr : ∀ l, l < sNl s → (aRm T l).isSome = true → (aRm T' l).isSome = true) : uS s' T' ≤ uS s T := by
  have h := uc_mono hl hr
  have h0 := h 0
  have h1 := h 1
  have h2 := h 2
  have h3 := h 3
  have h4 := h 4
  have h5 := h 5
  unfold uS; omega
theorem uS_drop {T' : AdT} {k : Nat} (hk : k < 6) (hkl : k < sNl s) (hr : ∀ l, l < sNl s → (aRm T l).isSome = true → (aRm T' l).isSome = true) (h1 : (aRm T k).isSome = false) (h2 : (aRm T' k).isSome = true) : uS s T' + 1 ≤ uS s T := by
  have h := uc_mono (s := s) (s' := s) (Nat.le_refl _) hr
  have a0 := h 0
  have a1 := h 1
  have a2 := h 2
  have a3 := h 3
  have a4 := h 4
  have a5 := h 5
  have b1 : uc s T k = 1 := by unfold uc; rw [if_neg (fun w => by rw [h1] at w; exact absurd w.2 (by decide))]
  have b2 : uc s T' k = 0 := by unfold uc; rw [if_pos ⟨hkl, h2⟩]
  unfold uS
  rcases (show k = 0 ∨ k = 1 ∨ k = 2 ∨ k = 3 ∨ k = 4 ∨ k = 5 by omega) with rfl | rfl | rfl | rfl | rfl | rfl <;> omega
/-- as many as before -/
def cntE (s s' : StT) : Prop := sNl s' = sNl s ∧ sNp s' = sNp s ∧ sNg s' = sNg s
theorem cntE.refl : cntE s s := ⟨rfl, rfl, rfl⟩
theorem BU.same {s' : StT} (h : BU s T (n + 1) kc ns) (hc : cntE s s') : BU s' T n kc ns := by
  obtain ⟨h1, h2⟩ := h
  obtain ⟨c1, c2, c3⟩ := hc
  have hu : uS s' T ≤ uS s T := uS_mono (by omega) (fun _ _ q => q)
  unfold rmC at h1
  unfold rmN at h2
  refine ⟨?_, ?_⟩
  · unfold rmC; omega
  · unfold rmN; omega
theorem BU.spent (h : BU s T (n + 1) kc ns) : 1 ≤ kc ∧ 6 ≤ ns ∧ BU s T n (kc - 1) (ns - 6) := by
  obtain ⟨h1, h2⟩ := h
  exact ⟨by omega, by omega, by omega, by omega⟩
theorem cnt_fed {a c e f g : Int32} : cntE s (fedS s a c e f g) := by
  unfold fedS cntE
  split <;> exact ⟨rfl, rfl, rfl⟩
theorem cnt_end {k : Int32} : cntE s (endS s k) := by
  unfold endS cntE
  split <;> exact ⟨rfl, rfl, rfl⟩
theorem cnt_move {g x : Int32} : cntE s (moveS s g x) := by
  unfold moveS cntE
  split
  · exact ⟨rfl, rfl, rfl⟩
  · split <;> exact ⟨rfl, rfl, rfl⟩
theorem cnt_undo {g : Int32} : cntE s (undoS s g) := by
  unfold undoS cntE
  split
  · exact ⟨rfl, rfl, rfl⟩
  · split <;> exact ⟨rfl, rfl, rfl⟩
theorem cnt_vote {l p k v : Int32} : cntE s (voteS s l p k v) := by
  unfold voteS cntE
  split <;> exact ⟨rfl, rfl, rfl⟩
/-- what a roll costs -/
def roC (T : AdT) (o : Option Nat) : Nat := match o with
  | none => 0
  | some k => rkC T k
def roN (s : StT) (T : AdT) (o : Option Nat) : Nat := match o with
  | none => 0
  | some k => rkN s T k
theorem BU.roll {o : Option Nat} (h : BU s T (n + 1) kc ns) (hC : CI M s T) (ho : ∀ k, o = some k → k < sNl s) : roC T o ≤ kc ∧ roN s T o ≤ ns ∧ ∀ T', TR T T' → (∀ l, o = some l → (aRm T' l).isSome = true) → BU s T' n (kc - roC T o) (ns - roN s T o) := by
  obtain ⟨h1, h2⟩ := h
  have h6 := hC.1.2.2.1.1
  cases o with
  | none =>
    refine ⟨Nat.zero_le _, Nat.zero_le _, fun T' hT _ => ?_⟩
    have hu : uS s T' ≤ uS s T := uS_mono (Nat.le_refl _) (fun l _ q => hT.2.2.2 l q)
    unfold rmC at h1
    unfold rmN at h2
    refine ⟨?_, ?_⟩
    · show rmC s T' + n ≤ kc - 0
      unfold rmC; omega
    · show rmN s T' + 6 * n ≤ ns - 0
      unfold rmN; omega
  | some k =>
    have hk := ho k rfl
    have hO := hC.1.2.2.1.2 k hk
    have hw := wy_dec (sLs s k).1 (by have := hO.1; omega) (sLs s k).2.1 (by have := hO.2.1; omega)
    unfold rmC at h1
    unfold rmN at h2
    by_cases hr : (aRm T k).isSome = true
    · have e1 : roC T (some k) = 0 := by show rkC T k = 0; unfold rkC; rw [if_pos hr]
      have e2 : roN s T (some k) = 0 := by show rkN s T k = 0; unfold rkN; rw [if_pos hr]
      rw [e1, e2]
      refine ⟨Nat.zero_le _, Nat.zero_le _, fun T' hT _ => ?_⟩
      have hu : uS s T' ≤ uS s T := uS_mono (Nat.le_refl _) (fun l _ q => hT.2.2.2 l q)
      refine ⟨?_, ?_⟩
      · unfold rmC; omega
      · unfold rmN; omega
    · have e1 : roC T (some k) = 3 := by show rkC T k = 3; unfold rkC; rw [if_neg hr]
      have e2 : roN s T (some k) = 5 + 2 * wy (sLs s k).1 (sLs s k).2.1 := by show rkN s T k = _; unfold rkN; rw [if_neg hr]
      have hu1 : 1 ≤ uS s T := by
        have b1 : uc s T k = 1 := by unfold uc; rw [if_neg (fun w => hr w.2)]
        unfold uS
        rcases (show k = 0 ∨ k = 1 ∨ k = 2 ∨ k = 3 ∨ k = 4 ∨ k = 5 by omega) with rfl | rfl | rfl | rfl | rfl | rfl <;> omega
      rw [e1, e2]
      refine ⟨by omega, by omega, fun T' hT hs => ?_⟩
      have hu := uS_drop (T := T) (T' := T') (by omega) hk (fun l _ q => hT.2.2.2 l q) (by cases q : (aRm T k).isSome with | true => exact absurd q hr | false => rfl) (hs k rfl)
      refine ⟨?_, ?_⟩
      · unfold rmC; omega
      · unfold rmN; omega
theorem inN_lt {x : Int32} {N k : Nat} (h : inN x N = some k) : k < N := by
  unfold inN at h
  split at h
  · cases h; omega
  · cases h
theorem lcN_lt {nl : Nat} {Ls : Nat → LandT} {l x : Int32} {q : Nat × Nat} (h : lcN nl Ls l x = some q) : q.1 < nl := by
  unfold lcN at h
  cases h1 : inN l nl with
  | none => rw [h1] at h; cases h
  | some k =>
    rw [h1] at h
    dsimp only at h
    cases h2 : inN x (4 ^ (Ls k).1) with
    | none => rw [h2] at h; cases h
    | some c => rw [h2] at h; cases h; exact inN_lt h1
theorem alone_lt {l p w : Int32} {k : Nat} (h : cAlone s l p w = some k) : k < sNl s := by
  unfold cAlone at h
  split at h
  · exact inN_lt h
  · cases h
theorem luck_lt {l x p w : Int32} {k : Nat} (h : cLuck s l x p w = some k) : k < sNl s := by
  unfold cLuck at h
  split at h
  · cases h1 : wlN (sNl s) (sLs s) l x with
    | none => rw [h1] at h; cases h
    | some q =>
      rw [h1] at h
      obtain ⟨k', c'⟩ := q
      have := lcN_lt (wlN_some h1).1
      cases h
      exact this
  · cases h
theorem near_lt {l x : Int32} {k : Nat} (h : cNear s l x = some k) : k < sNl s := by
  unfold cNear at h
  cases h1 : lcN (sNl s) (sLs s) l x with
  | none => rw [h1] at h; cases h
  | some q =>
    obtain ⟨k', c'⟩ := q
    have := lcN_lt h1
    rw [h1] at h
    dsimp only at h
    split at h
    · cases h
    · cases h; exact this
/-- what a new land costs -/
def ldK (s : StT) : Bool := decide (sNl s < 6) && (landT (sZ s) (sT s)).1.isNone
def ldC (s : StT) : Nat := if ldK s then 12 else 0
def ldN (s : StT) : Nat := if ldK s then 81 + 4 * 2 ^ (landT (sZ s) (sT s)).2.1 else 0
theorem ldK_iff : ldK s = true ↔ sNl s < 6 ∧ (landT (sZ s) (sT s)).1 = none := by
  unfold ldK
  rw [Bool.and_eq_true, decide_eq_true_eq, Option.isNone_iff_eq_none]
theorem BU.land {k : Nat} (h : BU s T (n + 1) kc ns) (hC : CI M s T) : ldC s ≤ kc ∧ ldN s ≤ ns ∧ ∀ T', (T' = T ∨ (sNl s < 6 ∧ (landT (sZ s) (sT s)).1 = none ∧ T' = growL T (sNl s) k)) → BU (landS s) T' n (kc - ldC s) (ns - ldN s) := by
  obtain ⟨h1, h2⟩ := h
  have h6 := hC.1.2.2.1.1
  by_cases hc : ldK s = true
  · have e1 : ldC s = 12 := by unfold ldC; rw [if_pos hc]
    have e2 : ldN s = 81 + 4 * 2 ^ (landT (sZ s) (sT s)).2.1 := by unfold ldN; rw [if_pos hc]
    obtain ⟨c1, c2⟩ := ldK_iff.mp hc
    have hO := landT_P c2
    have hp : 2 ^ (landT (sZ s) (sT s)).2.1 ≤ 2 ^ 9 := Nat.pow_le_pow_right (by decide) hO.1.2
    have e9 : (2 : Nat) ^ 9 = 512 := rfl
    have eS : landS s = ((0, sT s), (sNl s + 1, fun l => if l = sNl s then (landT (sZ s) (sT s)).2 else sLs s l), s.2.2) := by
      unfold landS; rw [if_neg (by omega), c2]
    have l1 : sNl (landS s) = sNl s + 1 := by rw [eS]; rfl
    have l2 : sNp (landS s) = sNp s := by rw [eS]; rfl
    have l3 : sNg (landS s) = sNg s := by rw [eS]; rfl
    rw [e1, e2]
    unfold rmC at h1
    unfold rmN at h2
    refine ⟨by omega, by omega, fun T' hT => ?_⟩
    have hu : uS (landS s) T' ≤ uS s T := uS_mono (by omega) (fun l hl q => by
      rcases hT with rfl | ⟨-, -, rfl⟩
      · exact q
      · show (if l = sNl s then none else aRm T l).isSome = true
        rw [if_neg (by omega)]; exact q)
    refine ⟨?_, ?_⟩
    · unfold rmC; omega
    · unfold rmN; omega
  · have e1 : ldC s = 0 := by unfold ldC; rw [if_neg hc]
    have e2 : ldN s = 0 := by unfold ldN; rw [if_neg hc]
    rw [e1, e2]
    have hcc : cntE s (landS s) := by
      unfold landS cntE
      split
      · exact ⟨rfl, rfl, rfl⟩
      · split
        · exact ⟨rfl, rfl, rfl⟩
        · rename_i q1 q2
          exact absurd (ldK_iff.mpr ⟨by omega, q2⟩) hc
    refine ⟨Nat.zero_le _, Nat.zero_le _, fun T' hT => ?_⟩
    have hT : T' = T := by
      rcases hT with rfl | ⟨q1, q2, -⟩
      · rfl
      · exact absurd (ldK_iff.mpr ⟨q1, q2⟩) hc
    subst hT
    exact BU.same ⟨h1, h2⟩ hcc
def prK (s : StT) : Bool := decide (sNp s < 8) && (protT (sZ s) (sT s)).1.isNone
theorem prK_iff : prK s = true ↔ sNp s < 8 ∧ (protT (sZ s) (sT s)).1 = none := by
  unfold prK
  rw [Bool.and_eq_true, decide_eq_true_eq, Option.isNone_iff_eq_none]
def prC (s : StT) : Nat := if prK s then 3 else 0
def prN (s : StT) : Nat := if prK s then 10 else 0
theorem BU.prot {k : Nat} (h : BU s T (n + 1) kc ns) (hC : CI M s T) : prC s ≤ kc ∧ prN s ≤ ns ∧ ∀ T', (T' = T ∨ (sNp s < 8 ∧ (protT (sZ s) (sT s)).1 = none ∧ T' = growP T (sNp s) k)) → BU (protS s) T' n (kc - prC s) (ns - prN s) := by
  obtain ⟨h1, h2⟩ := h
  have h8 := hC.1.2.2.2.1.1
  have hrm : ∀ T', (T' = T ∨ (sNp s < 8 ∧ (protT (sZ s) (sT s)).1 = none ∧ T' = growP T (sNp s) k)) → aRm T' = aRm T := fun T' hT => by
    rcases hT with rfl | ⟨-, -, rfl⟩
    · rfl
    · rfl
  by_cases hc : prK s = true
  · have e1 : prC s = 3 := by unfold prC; rw [if_pos hc]
    have e2 : prN s = 10 := by unfold prN; rw [if_pos hc]
    obtain ⟨c1, c2⟩ := prK_iff.mp hc
    have eS : protS s = ((0, sT s), s.2.1, (sNp s + 1, fun p => if p = sNp s then (protT (sZ s) (sT s)).2 else sPs s p), s.2.2.2) := by
      unfold protS; rw [if_neg (by omega), c2]
    have l1 : sNl (protS s) = sNl s := by rw [eS]; rfl
    have l2 : sNp (protS s) = sNp s + 1 := by rw [eS]; rfl
    have l3 : sNg (protS s) = sNg s := by rw [eS]; rfl
    rw [e1, e2]
    unfold rmC at h1
    unfold rmN at h2
    refine ⟨by omega, by omega, fun T' hT => ?_⟩
    have hu : uS (protS s) T' ≤ uS s T := uS_mono (by omega) (fun l hl q => by rw [hrm T' hT]; exact q)
    refine ⟨?_, ?_⟩
    · unfold rmC; omega
    · unfold rmN; omega
  · have e1 : prC s = 0 := by unfold prC; rw [if_neg hc]
    have e2 : prN s = 0 := by unfold prN; rw [if_neg hc]
    rw [e1, e2]
    have hcc : cntE s (protS s) := by
      unfold protS cntE
      split
      · exact ⟨rfl, rfl, rfl⟩
      · split
        · exact ⟨rfl, rfl, rfl⟩
        · rename_i q1 q2
          exact absurd (prK_iff.mpr ⟨by omega, q2⟩) hc
    refine ⟨Nat.zero_le _, Nat.zero_le _, fun T' hT => ?_⟩
    have hT : T' = T := by
      rcases hT with rfl | ⟨q1, q2, -⟩
      · rfl
      · exact absurd (prK_iff.mpr ⟨q1, q2⟩) hc
    subst hT
    exact BU.same ⟨h1, h2⟩ hcc
def gaK (s : StT) (l p : Int32) : Bool := (inN l (sNl s)).isSome && ((inN p (sNp s)).isSome && decide (sNg s < 8))
theorem gaK_iff {l p : Int32} : gaK s l p = true ↔ (inN l (sNl s)).isSome = true ∧ (inN p (sNp s)).isSome = true ∧ sNg s < 8 := by
  unfold gaK
  rw [Bool.and_eq_true, Bool.and_eq_true, decide_eq_true_eq]
def gaC (s : StT) (l p : Int32) : Nat := if gaK s l p then 5 else 0
def gaN (s : StT) (l p : Int32) : Nat := if gaK s l p then 44 else 0
theorem BU.game {l p : Int32} (h : BU s T (n + 1) kc ns) (hC : CI M s T) : gaC s l p ≤ kc ∧ gaN s l p ≤ ns ∧ ∀ T', (T' = T ∨ (sNg s < 8 ∧ (inN l (sNl s)).isSome = true ∧ (inN p (sNp s)).isSome = true ∧ ∃ k, T' = growG T (sNg s) k)) → BU (gameS s l p) T' n (kc - gaC s l p) (ns - gaN s l p) := by
  obtain ⟨h1, h2⟩ := h
  have h8 := hC.1.2.2.2.2.1
  have hrm : ∀ T', (T' = T ∨ (sNg s < 8 ∧ (inN l (sNl s)).isSome = true ∧ (inN p (sNp s)).isSome = true ∧ ∃ k, T' = growG T (sNg s) k)) → aRm T' = aRm T := fun T' hT => by
    rcases hT with rfl | ⟨-, -, -, k, rfl⟩
    · rfl
    · rfl
  by_cases hc : gaK s l p = true
  · have e1 : gaC s l p = 5 := by unfold gaC; rw [if_pos hc]
    have e2 : gaN s l p = 44 := by unfold gaN; rw [if_pos hc]
    obtain ⟨c1, c2, c3⟩ := gaK_iff.mp hc
    obtain ⟨k1, w1⟩ := Option.isSome_iff_exists.mp c1
    obtain ⟨k2, w2⟩ := Option.isSome_iff_exists.mp c2
    have eS : gameS s l p = (s.1, s.2.1, s.2.2.1, (sNg s + 1, fun i => if i = sNg s then (k1, k2, []) else sGs s i)) := by
      unfold gameS; rw [w1]; dsimp only; rw [w2]; dsimp only; rw [if_neg (by omega)]
    have l1 : sNl (gameS s l p) = sNl s := by rw [eS]; rfl
    have l2 : sNp (gameS s l p) = sNp s := by rw [eS]; rfl
    have l3 : sNg (gameS s l p) = sNg s + 1 := by rw [eS]; rfl
    rw [e1, e2]
    unfold rmC at h1
    unfold rmN at h2
    refine ⟨by omega, by omega, fun T' hT => ?_⟩
    have hu : uS (gameS s l p) T' ≤ uS s T := uS_mono (by omega) (fun l hl q => by rw [hrm T' hT]; exact q)
    refine ⟨?_, ?_⟩
    · unfold rmC; omega
    · unfold rmN; omega
  · have e1 : gaC s l p = 0 := by unfold gaC; rw [if_neg hc]
    have e2 : gaN s l p = 0 := by unfold gaN; rw [if_neg hc]
    rw [e1, e2]
    have hcc : cntE s (gameS s l p) := by
      unfold gameS cntE
      split
      · exact ⟨rfl, rfl, rfl⟩
      · rename_i k1 w1
        split
        · exact ⟨rfl, rfl, rfl⟩
        · rename_i k2 w2
          split
          · exact ⟨rfl, rfl, rfl⟩
          · rename_i q
            exact absurd (gaK_iff.mpr ⟨by rw [w1]; rfl, by rw [w2]; rfl, by omega⟩) hc
    refine ⟨Nat.zero_le _, Nat.zero_le _, fun T' hT => ?_⟩
    have hT : T' = T := by
      rcases hT with rfl | ⟨q1, q2, q3, -⟩
      · rfl
      · exact absurd (gaK_iff.mpr ⟨q2, q3, q1⟩) hc
    subst hT
    exact BU.same ⟨h1, h2⟩ hcc
/-! the law's locals, its script, what follows a call -/
abbrev LL (i : Nat) : List (Option AV) := [none, some (vR 1), some (vR 75), some (vR 104), some (vI (nI i)), none, none]
def SCR (F : Fx) (X : Cx) (b Ls : Nat) (xs : Nat → Int32) : Prop := va_X b Ls xs F.2.2.2.1 F.2.2.2.1.heap ∧ b < F.2.2.2.1.heap.size ∧ ¬ AX X b ∧ Ls ≤ 3072
def NXT (F : Fx) (X : Cx) (d b i n : Nat) (Q : Option AV → Mem → Prop) : Prop := ∀ (s : StT) (T : AdT) (M : Mem) (kc ns : Nat), CI M s T → RI M s → isK M 104 20 1 → BU s T n kc ns → WV F (zB b) X d kc ns m_L_law 1544 (LL i) [] M Q
theorem z_a {k n : Nat} {kk : Int} (hd0 : DC m_L_law.2.1 pc (.aload_n 0) 1 (pc + 1)) (hd1 : DC m_L_law.2.1 (pc + 1) (.iload 4) 2 (pc + 3)) (hd2 : DC m_L_law.2.1 (pc + 3) (.iconst kk) 1 (pc + 4)) (hd3 : DC m_L_law.2.1 (pc + 4) .iadd 1 (pc + 5)) (hd4 : DC m_L_law.2.1 (pc + 5) .iaload 1 n) (hk : Int32.ofInt kk = nI k) (hS : SCR F X b Ls xs) (hL4 : L[4]? = some (some (vI (nI i)))) (hi : i + k < Ls)
    (h : WV F (zB b) X d kc ns m_L_law n L (vI (xs (i + k)) :: S) M Q) : WV F (zB b) X d kc ns m_L_law pc L S M Q := z_arg hd0 hd1 hd2 hd3 hd4 hk hS.1 hS.2.1 hS.2.2.1 hL4 hi hS.2.2.2 h
end LBASE
