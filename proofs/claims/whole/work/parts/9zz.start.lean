/-! THE LAW: its start; the claim -/
set_option maxRecDepth 100000 in
theorem ls_W : Cond.laysStatic "TwoPencils" "WORTHS" "[I" ∈ lw_tbl := in_t4 (List.mem_of_getElem? (i := 82) rfl)
set_option maxRecDepth 100000 in
theorem ls_U : Cond.laysStatic Bundle.tN "UNASSIGNED_STACK" Bundle.steD ∈ lw_tbl := in_t5 (List.mem_of_getElem? (i := 164) rfl)
set_option maxRecDepth 100000 in
theorem ls_N : Cond.laysStatic Bundle.tN "SUPPRESSED_SENTINEL" Bundle.listD ∈ lw_tbl := in_t5 (List.mem_of_getElem? (i := 166) rfl)
set_option maxRecDepth 100000 in
theorem ii_T : Cond.initialized Bundle.tN ∈ lw_tbl := in_t1 (List.mem_of_getElem? (i := 15) rfl)
theorem st_arr {s : State} {args : Array Value} {ty : FieldType} (hp : match ty with | .object _ => False | _ => True) (h : (Cond.arrayClass ty).before args s = true) : ∃ c, ArrOfT s c ty ∧ va_RA s c ty := by
  obtain ⟨c, k, comp, h1, h2, h3⟩ := Cond.arrayClass_spec h
  refine ⟨c, fun n z => ⟨fun k h => (by cases h), k, h2, comp, h3⟩, ?_⟩
  cases ty <;> first | exact h1 | exact hp.elim
theorem st_arO {s : State} {args : Array Value} {C : String} (h : (Cond.arrayOver (.object C)).before args s = true) : ∃ c, ArrOfT s c (.object C) ∧ va_RA s c (.object C) := by
  obtain ⟨comp, c, k, h1, -, h3, h4, h5⟩ := Cond.arrayOver_spec h
  exact ⟨c, fun n z => ⟨fun k h => (by cases h), k, h3, comp, h4⟩, k, comp, h3, h4, h1, h5⟩
def wTm : Term := .static "TwoPencils" "WORTHS" "[I"
theorem st_worths {s : State} {args : Array Value} {A : Nat → Prop} (hts : ∀ w ∈ lw_tbl, w.before args s = true) (hgv : (Jvm.Cond.and given_1 narrow_1).before args s = true) (hA : ∀ a : Nat, a < s.heap.size → ¬ A a) : ∃ w : Nat, va_Z "TwoPencils" "WORTHS" "[I" (.ref w) A s s.heap ∧ va_T .int w 12 (fun j => .int (([1, -1, 0, 0, 1, 0, 0, 0, 0, -1, 0, 0] : List Int32).getD j 0)) A s s.heap := by
  have hs := flat_of_before _ hgv
  have harr : (Cond.arrayOf wTm .int).before args s = true := hs _ (by decide +kernel)
  have hlen : (Cond.eq (.length wTm) (.int 12)).before args s = true := hs _ (by decide +kernel)
  have h0 : (Cond.eq (.elem wTm (.int 0)) (.int 1)).before args s = true := hs _ (by decide +kernel)
  have h1 : (Cond.eq (.elem wTm (.int 1)) (.int (-1))).before args s = true := hs _ (by decide +kernel)
  have h2 : (Cond.eq (.elem wTm (.int 2)) (.int 0)).before args s = true := hs _ (by decide +kernel)
  have h3 : (Cond.eq (.elem wTm (.int 3)) (.int 0)).before args s = true := hs _ (by decide +kernel)
  have h4 : (Cond.eq (.elem wTm (.int 4)) (.int 1)).before args s = true := hs _ (by decide +kernel)
  have h5 : (Cond.eq (.elem wTm (.int 5)) (.int 0)).before args s = true := hs _ (by decide +kernel)
  have h6 : (Cond.eq (.elem wTm (.int 6)) (.int 0)).before args s = true := hs _ (by decide +kernel)
  have h7 : (Cond.eq (.elem wTm (.int 7)) (.int 0)).before args s = true := hs _ (by decide +kernel)
  have h8 : (Cond.eq (.elem wTm (.int 8)) (.int 0)).before args s = true := hs _ (by decide +kernel)
  have h9 : (Cond.eq (.elem wTm (.int 9)) (.int (-1))).before args s = true := hs _ (by decide +kernel)
  have h10 : (Cond.eq (.elem wTm (.int 10)) (.int 0)).before args s = true := hs _ (by decide +kernel)
  have h11 : (Cond.eq (.elem wTm (.int 11)) (.int 0)).before args s = true := hs _ (by decide +kernel)
  obtain ⟨w, hw, hT⟩ := va_Tof (tm := wTm) (N := 12) (f := fun j => .int (([1, -1, 0, 0, 1, 0, 0, 0, 0, -1, 0, 0] : List Int32).getD j 0)) (A := A) (by decide) harr (va_eqt hlen) (fun j hj => by
    rcases (show j = 0 ∨ j = 1 ∨ j = 2 ∨ j = 3 ∨ j = 4 ∨ j = 5 ∨ j = 6 ∨ j = 7 ∨ j = 8 ∨ j = 9 ∨ j = 10 ∨ j = 11 by omega) with rfl | rfl | rfl | rfl | rfl | rfl | rfl | rfl | rfl | rfl | rfl | rfl
    · exact va_eqt h0
    · exact va_eqt h1
    · exact va_eqt h2
    · exact va_eqt h3
    · exact va_eqt h4
    · exact va_eqt h5
    · exact va_eqt h6
    · exact va_eqt h7
    · exact va_eqt h8
    · exact va_eqt h9
    · exact va_eqt h10
    · exact va_eqt h11) hA
  exact ⟨w, va_Zref (hts _ ls_W) (hts _ ii_10) hw hA, hT⟩
/-- what stands of the classes at the law's start -/
theorem st_K {l : Launch} {s : State} {args : Array Value} (b0 : Nat) (hts : ∀ w ∈ lw_tbl, w.before args s = true) : ∃ X : Cx, X.1 = l ∧ X.2.2.2 = b0 ∧ va_K X.2.1 cls (tysX X) s := by
  have hk : ∀ ci, ∃ q : ClassId × (Nat → Nat), (ci < 12 → u_Kn s (nmC ci) (TC ci) (NC ci) q.1 q.2) ∧ (ci = 12 → u_Kn s nmX (fun _ => ("", "", "", false)) 0 q.1 q.2) := by
    intro ci
    by_cases h : ci < 12
    · have hi : (Cond.instantiable (nmC ci) (NC ci)).before args s = true := by
        refine hts _ ?_
        rcases (show ci = 0 ∨ ci = 1 ∨ ci = 2 ∨ ci = 3 ∨ ci = 4 ∨ ci = 5 ∨ ci = 6 ∨ ci = 7 ∨ ci = 8 ∨ ci = 9 ∨ ci = 10 ∨ ci = 11 by omega) with rfl | rfl | rfl | rfl | rfl | rfl | rfl | rfl | rfl | rfl | rfl | rfl
        · exact in_0
        · exact in_1
        · exact in_2
        · exact in_3
        · exact in_4
        · exact in_5
        · exact in_6
        · exact in_7
        · exact in_8
        · exact in_9
        · exact in_10
        · exact in_11
      obtain ⟨cC, iS, hq⟩ := u_known hts (ws_in ci h) hi
      exact ⟨(cC, iS), fun _ => hq, fun z => absurd h (by omega)⟩
    · have hi : (Cond.instantiable nmX 6).before args s = true := hts _ (exc_at _ (by decide +kernel)).1
      obtain ⟨cC, iS, hq⟩ := u_known (C := nmX) (T := fun _ => ("", "", "", false)) (N := 0) hts (fun w hw => by cases hw) hi
      exact ⟨(cC, iS), fun z => absurd z h, fun _ => hq⟩
  obtain ⟨a12, p12, q12⟩ := st_arr (ty := .byte) trivial (hts _ ac_12)
  obtain ⟨a13, p13, q13⟩ := st_arr (ty := .char) trivial (hts _ ac_13)
  obtain ⟨a14, p14, q14⟩ := st_arr (ty := .int) trivial (hts _ ac_14)
  obtain ⟨a15, p15, q15⟩ := st_arr (ty := .boolean) trivial (hts _ ac_15)
  obtain ⟨a16, p16, q16⟩ := st_arO (hts _ ao_16)
  obtain ⟨a17, p17, q17⟩ := st_arO (hts _ ao_17)
  obtain ⟨a18, p18, q18⟩ := st_arO (hts _ ao_18)
  obtain ⟨a19, p19, q19⟩ := st_arO (hts _ ao_19)
  obtain ⟨a20, p20, q20⟩ := st_arr (ty := .long) trivial (hts _ ac_20)
  refine ⟨(l, (fun ci => (Classical.choose (hk ci)).1, fun ci => (Classical.choose (hk ci)).2), fun k => ([a12, a13, a14, a15, a16, a17, a18, a19, a20] : List ClassId).getD (k - 12) a12, b0), rfl, rfl, fun ci q hq => ?_, fun k q hq => ?_⟩
  · obtain ⟨h1, h2⟩ := Classical.choose_spec (hk ci)
    by_cases h : ci < 12
    · rw [cls_at h] at hq
      cases hq
      exact h1 h
    · by_cases h9 : ci = 12
      · subst h9
        rw [cls_x] at hq
        cases hq
        exact h2 rfl
      · have hz : cls.length = 13 := rfl
        rw [List.getElem?_eq_none (by omega)] at hq
        cases hq
  · unfold tysX at hq
    match k, hq with
    | 0, hq => cases hq; exact ⟨p12, q12⟩
    | 1, hq => cases hq; exact ⟨p13, q13⟩
    | 2, hq => cases hq; exact ⟨p14, q14⟩
    | 3, hq => cases hq; exact ⟨p15, q15⟩
    | 4, hq => cases hq; exact ⟨p16, q16⟩
    | 5, hq => cases hq; exact ⟨p17, q17⟩
    | 6, hq => cases hq; exact ⟨p18, q18⟩
    | 7, hq => cases hq; exact ⟨p19, q19⟩
    | 8, hq => cases hq; exact ⟨p20, q20⟩
    | k + 9, hq => cases hq
def Mz : Mem := (fun _ _ => 0, fun _ _ => 0, fun _ _ => 0, [(99, 0)])
def Tz : AdT := (fun _ => 0, fun _ => 0, fun _ => 0, fun _ => none, fun _ => 0)
theorem tiX_CI {M B : Mem} (h : tiX M) (hF : ∀ b k, b < 75 → mI B b k = mI M b k ∧ mR B b k = mR M b k) (hKk : ∀ a k n, isK M a k n → isK B a k n) (hn : 105 ≤ nx B) : CI B s0 Tz := by
  obtain ⟨h1, h2, h3, ⟨h6, h7, h8⟩, h18, hmc, ⟨r5, r6⟩, h57⟩ := h
  have hE : Ext M B := ⟨hKk, fun a ci k n hk _ => (hF a k (by have := isK_lt hk; have e : nx M = M.2.2.2.length := rfl; omega)).2⟩
  have i : ∀ b k, b < 75 → mI B b k = mI M b k := fun b k q => (hF b k q).1
  have r : ∀ b k, b < 75 → mR B b k = mR M b k := fun b k q => (hF b k q).2
  refine ⟨⟨h2.ext hE, ⟨Nat.zero_le _, fun i hi => absurd hi (Nat.not_lt_zero _)⟩, ⟨Nat.zero_le _, fun i hi => absurd hi (Nat.not_lt_zero _)⟩, ⟨Nat.zero_le _, fun i hi => absurd hi (Nat.not_lt_zero _)⟩, Nat.zero_le _, fun i hi => absurd hi (Nat.not_lt_zero _)⟩, ⟨h2.k0.ext hE, (i _ _ (by decide)).trans h3, Nat.zero_le _, fun k hk => absurd hk (Nat.not_lt_zero _)⟩, ⟨⟨(i _ _ (by decide)).trans h6, (i _ _ (by decide)).trans h7, (i _ _ (by decide)).trans h8⟩, fun l hl => absurd hl (Nat.not_lt_zero _), fun l hl => absurd hl (Nat.not_lt_zero _), fun l hl => absurd hl (Nat.not_lt_zero _)⟩, fun l hl => absurd hl (Nat.not_lt_zero _), fun l hl => absurd hl (Nat.not_lt_zero _), fun l hl => absurd hl (Nat.not_lt_zero _), ⟨(i _ _ (by decide)).trans h18, fun k hk => ?_⟩, ⟨⟨?_, ?_⟩, fun l p ot g hl => absurd hl (Nat.not_lt_zero _)⟩, fun l p w hl hp hw => Or.inl ?_, fun b hb => rfl, fun l hl => absurd hl (Nat.not_lt_zero _), fun l hl => absurd hl (Nat.not_lt_zero _), fun l hl => absurd hl (Nat.not_lt_zero _), hn⟩
  · obtain ⟨k1, k2, k3⟩ := hmc k hk
    exact ⟨(r _ _ (by decide)).trans k1, k2.ext hE, (i _ _ (by omega)).trans k3⟩
  · rw [r _ _ (by decide), r5]; omega
  · rw [r _ _ (by decide), r6]; omega
  · rw [i _ _ (by decide)]; exact h57 _ (by omega)
set_option maxHeartbeats 4000000 in
theorem whole_start {p : Program} {e : Env} {s : State} {m : MethodId} {below : List Frame} {meth : Method} {c : Code} (l : Launch) (hflags : l.flags = flags0) {b L : Nat} {xs : Nat → Int32} (hL : L ≤ 3072) (C0 : lw_At p s m meth c b L xs) : W p l e room_1 s m #[Value.ref b] below meth c s.heap [] 0 0 (lw_Z below #[Value.ref b] s) (entryFrame m ([Value.ref b] : List Value).toArray 7) := by
  obtain ⟨hx, hb, hr, hml, hown, hts, hX, hbl, hlocks, hgv, hnm⟩ := C0
  obtain ⟨X, rfl, hb0, hK⟩ := st_K (l := l) (s.heap.size - 1) hts
  have hfl : X.1.stackTraces = false := by
    show (!X.1.flags.contains noTraceFlag) = false
    rw [hflags]
    decide +kernel
  have hA : ∀ a : Nat, a < s.heap.size → ¬ AX X a := fun a ha w => by
    have w : X.2.2.2 < a := w
    omega
  have hs := flat_of_before _ hgv
  have hU : vx_Zq Bundle.tN "UNASSIGNED_STACK" Bundle.steD (AX X) s s.heap := vx_Zqof (hts _ ls_U) (hts _ ii_T) (hs (.isRef (.static "java/lang/Throwable" "UNASSIGNED_STACK" "[Ljava/lang/StackTraceElement;")) (by decide +kernel)) hA
  have hN : vx_Zq Bundle.tN "SUPPRESSED_SENTINEL" Bundle.listD (AX X) s s.heap := vx_Zqof (hts _ ls_N) (hts _ ii_T) (hs (.isRef (.static "java/lang/Throwable" "SUPPRESSED_SENTINEL" "Ljava/util/List;")) (by decide +kernel)) hA
  have hKX : KX X s := ⟨TB.of hts, hK, by omega, st_worths hts hgv hA, hU, hN⟩
  have hSc : SCR (p, e, room_1, s, m, #[Value.ref b], below, meth, c, lw_Z below #[Value.ref b] s) X b L xs := ⟨hX, hbl, hA b hbl, hL⟩
  have hR0 : Rl X Mz s.heap := ⟨by rw [hb0]; show s.heap.size = s.heap.size - 1 + 1; omega, rfl, fun k q hq => by cases hq⟩
  have hl := lv_entry [Value.ref b] (n := 7) (Nat.le_of_ble_eq_true rfl)
  rw [lg_entry_eq]
  have hZ0 : zB b (lg_sl [Value.ref b] ++ List.replicate (7 - (lg_sl [Value.ref b]).length) Slot.unset).toArray := rfl
  have hL0 : hasL X.2.2.2 (lg_sl [Value.ref b] ++ List.replicate (7 - (lg_sl [Value.ref b]).length) Slot.unset).toArray 7 [none, none, none, none, none, none, none] := ⟨hl.1, hl.2.1, fun i v hv => by
    rcases i with _ | _ | _ | _ | _ | _ | _ | i <;> simp at hv⟩
  have hW : WV (p, e, room_1, s, m, #[Value.ref b], below, meth, c, lw_Z below #[Value.ref b] s) (zB b) X 1000 601024 7293034 m_L_law 0 [none, none, none, none, none, none, none] [] Mz (fun _ _ => True) := by
    refine z_new (ci := 10) (N := 18) (tk K_L0 0 rfl) (by decide) rfl cl_L_8 in_10 ii_10 (by decide) (by decide) (z_dup (tk K_L0 1 rfl) rfl ?_)
    have o1 : isK (nw Mz 10 18) 1 10 18 := rfl
    have n1 : nx (nw Mz 10 18) = 2 := rfl
    refine z_callI (my := m_X10_init) (As := []) (a := 1) (S := [vR 1]) (kc1 := 73) (ns1 := 5158) (Q' := fun r M' => r = none ∧ tiX M') (tk K_L0 2 rfl) mk_L_15 mo_X10_init o1 rfl rfl (Nat.le_of_ble_eq_true rfl) (by decide) (by decide) (by decide) (kp10_init (by decide) (by decide) (by decide) o1 n1 (fun B hB => ⟨rfl, hB⟩)) (fun r M1 hr => ?_)
    obtain ⟨rfl, hT1⟩ := hr
    refine z_astore_n (i := 1) (tk K_L0 3 rfl) rfl (by decide) (by decide) rfl (by decide) rfl ?_
    refine z_new (ci := 11) (N := 54) (tk K_L0 4 rfl) (by decide) rfl cl_L_16 in_11 ii_11 (by decide) (by decide) (z_dup (tk K_L0 5 rfl) rfl ?_)
    rw [hT1.1]
    have F2 : Fal (fun _ _ => False) (fun _ _ => False) M1 (nw M1 11 54) := Fal.nw
    have o2 : isK (nw M1 11 54) 75 11 54 := by have := isK_nw (M := M1) (k := 11) (n0 := 54); rw [hT1.1] at this; exact this
    have n2 : nx (nw M1 11 54) = 76 := by rw [nx_nw, hT1.1]
    have z2 : ∀ j, mI (nw M1 11 54) 75 j = 0 := fun j => by have := mI_nw (M := M1) (k := 11) (n := 54) (i := j); rw [hT1.1] at this; exact this
    have E2 : Ext M1 (nw M1 11 54) := ExtN
    generalize nw M1 11 54 = M2 at F2 o2 n2 z2 E2 ⊢
    refine z_callI (my := m_X11_init) (As := []) (a := 75) (S := [vR 75]) (kc1 := 28) (ns1 := 55180) (Q' := fun r M' => r = none ∧ mkC M2 M' 104 rfL) (tk K_L0 6 rfl) mk_L_18 mo_X11_init o2 rfl rfl (Nat.le_of_ble_eq_true rfl) (by decide) (by decide) (by decide) (rf_init (by decide) (by decide) (by decide) n2 o2 (fun B hB => ⟨rfl, hB⟩)) (fun r M3 hr => ?_)
    obtain ⟨rfl, hM3⟩ := hr
    refine z_astore_n (i := 2) (tk K_L0 7 rfl) rfl (by decide) (by decide) rfl (by decide) rfl ?_
    have hRI := mkC_ri hM3 z2
    refine z_iconst (tk K_L0 8 rfl) ic_1 (z_newa (k := 20) (tk K_L0 9 rfl) rfl ac_20 (na_in (by decide) (by decide)) (by decide) (by decide) ?_)
    rw [na_ix (by decide), hM3.1]
    have F4 : Fal (fun _ _ => False) (fun _ _ => False) M3 (nw M3 20 1) := Fal.nw
    have o4 : isK (nw M3 20 1) 104 20 1 := by have := isK_nw (M := M3) (k := 20) (n0 := 1); rw [hM3.1] at this; exact this
    have n4 : nx (nw M3 20 1) = 105 := by rw [nx_nw, hM3.1]
    have E4 : Ext M3 (nw M3 20 1) := ExtN
    have x1 := hT1.1
    have hCI : CI (nw M3 20 1) s0 Tz := tiX_CI hT1 (fun b k hbk => ⟨(F4.2.1 b k (by rw [hM3.1]; omega) id).trans (((hM3.2.2.2.1 b k (by omega)).1).trans (F2.2.1 b k (by omega) id)), (F4.2.2.1 b k (by rw [hM3.1]; omega) id).trans ((hM3.2.2.2.2.1 b k hbk).trans (F2.2.2.1 b k (by omega) id))⟩) (fun a k n hk => E4.1 _ _ _ (hM3.2.2.2.2.2.1 _ _ _ (E2.1 _ _ _ hk))) (by omega)
    have hRI4 : RI (nw M3 20 1) s0 := by
      have hF : Fr (fun a _ => a < 75 ∨ 104 ≤ a) M3 ((nw M3 20 1).1, M3.2) := ⟨fun a k q => F4.2.1 a k (by rw [hM3.1]; omega) id, rfl⟩
      have h2 : RI ((nw M3 20 1).1, M3.2) s0 := hRI.fr hF (fun a k q => by omega)
      exact ⟨hRI.1.ext E4, h2.2⟩
    generalize nw M3 20 1 = M4 at o4 n4 hCI hRI4 ⊢
    refine z_astore_n (i := 3) (tk K_L0 10 rfl) rfl (by decide) (by decide) rfl (by decide) rfl (z_iconst (tk K_L0 11 rfl) ic_0 (z_istore (i := 4) (tk K_L0 12 rfl) (by decide) rfl (by decide) rfl ?_))
    refine law_loop (d := 1000) hfl (by decide) (by omega) hSc 512 0 s0 Tz M4 _ _ (by omega) (by decide) hCI hRI4 o4 ⟨?_, ?_⟩
    · exact Nat.le_of_ble_eq_true rfl
    · exact Nat.le_of_ble_eq_true rfl
  exact hW s.heap [] 0 0 _ ⟨⟨hx, hb, hr, hml, hown, hlocks, hnm⟩, by decide, by decide, by decide, by decide, hKX, va_S.rf⟩ hL0 hZ0 hR0
set_option maxHeartbeats 4000000 in
theorem lw_walk (l : Launch) (hflags : l.flags = flags0) (b : Addr) (xs : List Int32) : MetFree l x (headSpec (Jvm.Cond.code x code maxLocals ret :: tables_1) room_1) (lw_P b xs) (fun _ _ _ _ _ => True) lw_Q := by
  refine MetFree.of_bodyS (code := code) (maxLocals := maxLocals) (ret := ret) (by decide) ?_ ?_
  · intro args s m h hn
    obtain ⟨meth, c, h1, h2, h3, h4, h5, h6, -, -⟩ := Cond.code_spec hn (atoms_spec (ws := Jvm.Cond.code x code maxLocals ret :: tables_1) h _ List.mem_cons_self)
    exact ⟨meth, c, h1, h2, h3, h4, h5, h6⟩
  · intro p e s m args below meth c s₁ B hml0 hP _
    obtain ⟨rfl, hx, hbd, hgv⟩ := hP
    obtain ⟨scr, harrAt, hlist, hof, hsmall⟩ := hx
    obtain ⟨hcb, hkn, -, -⟩ := State.arrayAt?_spec harrAt
    have hown : s.vm.findClass R_law = some m.cls := findClass_of_methodNamed B.named
    have hts0 : ∀ c ∈ (Jvm.Cond.code x code maxLocals ret :: tables_1), c.before #[Value.ref b] s = true := atoms_spec (ws := Jvm.Cond.code x code maxLocals ret :: tables_1) B.pre
    have hts : ∀ w ∈ lw_tbl, w.before #[Value.ref b] s = true := k2_hts_sels lw_privs (fun w hw => hts0 w (List.mem_cons_of_mem _ hw)) lw_privs_ok
    have hml : c.maxLocals = 7 := B.maxLocals_eq (hts0 _ List.mem_cons_self)
    have X₀ : Stand p l e room_1 s m #[Value.ref b] below meth c s₁ [] 0 0 := Stand.of_body B
    have hh0 : s₁.heap = s.heap := by rw [B.state]; rfl
    have hsz : scr.slots.size = xs.length := by rw [← Array.length_toList, hlist, List.length_map]
    have hval : ∀ j : Nat, j < xs.length → scr.slots[j]? = some (.int (xs.getD j 0)) := fun j hj => by
      rw [← Array.getElem?_toList, hlist]
      simp [hj]
    have hbl : b < s.heap.size := (Array.getElem?_eq_some_iff.mp hcb).1
    have hX : va_X b xs.length (fun j => xs.getD j 0) s s.heap := ⟨scr, hcb, hof, hkn, hsz, hval⟩
    have K : W p l e room_1 s m #[Value.ref b] below meth c s₁.heap [] 0 0 (lw_Z below #[Value.ref b] s) (entryFrame m ([Value.ref b] : List Value).toArray 7) := by
      rw [hh0]
      exact whole_start l hflags hbd ⟨B.exec, B.bytes, B.returns, hml, hown, hts, hX, hbl, B.notSynchronized, hgv, (name_of_methodNamed B.named B.method).1⟩
    obtain ⟨t, a1, o, b1, b2, b3⟩ := K s₁ rfl X₀
    exact ⟨t, o, a1, b1, b2, b3⟩
theorem lw_pre_spec {args : Array Value} {s : State} (h : (Jvm.Cond.and given_1 narrow_1).before args s = true) (hr : rest_1_c.before args s = true) : ∃ (b : Addr) (xs : List Int32), lw_P b xs args s := by
  have hs := flat_of_before _ h
  have hq := flat_of_before _ hr
  have hc : (Cond.count 1).before args s = true := hs _ (by decide +kernel)
  have harr : (Cond.arrayOf (.arg 0) .int).before args s = true := hs _ (by decide +kernel)
  have hle : (Cond.le (.length (.arg 0)) (.int 3072)).before args s = true := hs _ (by decide +kernel)
  have hlen : (Cond.isInt (.length (.arg 0))).before args s = true := hq _ (by decide +kernel)
  have hall : (Cond.all (.arg 0) (.isInt (.elem (.arg 0) (.index 0)))).before args s = true := hq _ (by decide +kernel)
  obtain ⟨b, xs, hb, hx⟩ := State.ints_of_pre rfl harr hlen hall
  have hsm : xs.length < 2 ^ 31 := hx.choose_spec.2.2.2
  have hev : (Term.length (.arg 0)).eval args s none [] s = some (.int xs.length.toInt32) := hx.length_eval hb
  have hv := Cond.le_ints hev (show (Term.int 3072).eval args s none [] s = some (.int 3072) from rfl)
  have hd : xs.length.toInt32 ≤ 3072 := by
    simpa [Cond.before, Cond.holds, hv] using hle
  have hN : xs.length ≤ 3072 := (Int32.ofNat_le_ofNat hsm (by decide)).mp (show Int32.ofNat xs.length ≤ Int32.ofNat 3072 from hd)
  exact ⟨b, xs, Cond.one_arg hc (show args[0]? = some (.ref b) from hb), hx, hN, h⟩
theorem lw_comes (l : Launch) (hflags : l.flags = flags0) : Comes l x (Jvm.Cond.code x code maxLocals ret :: tables_1) room_1 (fun tb e args s => Calls_1 tb e args s ∧ rest_1 tb e args s ∧ Pre_1 tb e args s)
    (fun _ _ args s o t => lw_Q args s o t) := by
  intro p e ha hc hk s m args below hf hfit hheap happ hpre
  obtain ⟨b, xs, hP⟩ := lw_pre_spec hpre.2.2 hpre.2.1
  obtain ⟨k, o, h1, h2, h3, hQ⟩ := lw_walk l hflags b xs p e ha hc hk s m args below hf ((Spec.applies_iff_loose hf).mp happ).1 hP trivial
  exact ⟨k, o, h1, h2, h3, hQ⟩
theorem lw_frame {s t : State} {o : Outcome} {args : Array Value} (h : Framed s o t [] 601024 7293034) :
    Framed s o t (fieldLocs frame_1_writes args s ++ arrayLocs frame_1_arrays args s ++ staticLocs frame_1_statics s) 601024 7293034 := h
theorem lw_limb (L : Cond) (hL : ∀ (args : Array Value) (s t : State), L.after args s (.returned (some (.int 1))) t = true) :
    ArmFor flags0 classFile x code maxLocals ret World_1 tables_1 room_1 Calls_1 rest_1 Pre_1
      (fun tb e a s o t => postC L tb e a s o t ∧ Framed s o t (fieldLocs frame_1_writes a s ++ arrayLocs frame_1_arrays a s ++ staticLocs frame_1_statics s) 601024 7293034) := by
  intro l hflags _ _ p e ha hc hk s m args below hf hfit hheap happ hpre
  obtain ⟨k, o, h1, h2, h3, rfl, hF⟩ := lw_comes l hflags p e ha hc hk s m args below hf hfit hheap happ hpre
  exact ⟨k, _, h1, h2, h3, hL args s _, lw_frame hF⟩
theorem i_vc : Claimed_1_1 ∧ Claimed_1_2 := ⟨lw_limb limb_1_1 (fun args s t => by simp [limb_1_1, Cond.after, Cond.holds, Cond.value]), lw_limb limb_1_2 (fun args s t => Cond.after_iff.mpr (by
  first | (rw [show limb_1_2 = Cond.eq .result (.int 1) from rfl, Cond.eq_ints (x := 1) (y := 1) rfl rfl]; simp; done) | (simp [limb_1_2, Cond.value, Term.eval]; done)))⟩
