/-! THE LAW asks of a parish: what is thrown is caught -/
section LPARISH
variable {X : Cx} {d kc ns : Nat} {M : Mem} {s : StT} {T : AdT} {Q : Option AV → Mem → Prop}
theorem kp_parishL {l p w : Int32} (hfl : X.1.stackTraces = false) (hd : 10 ≤ d) (h : CI M s T) (ho : isK M 104 20 1) (hq : ∀ v, oPar (sNl s) (sLs s) l p w = some v → Q (some (vI (nI 0))) (sJ M 104 0 (nI v).toInt64)) (hx : oPar (sNl s) (sLs s) l p w = none → Q (some (vI (nI 1))) (nw M 21 0)) :
    Met X.1 m_L_parish.1 [Cond.codeWith m_L_parish.1 method_3_code 6 (some .int) [(0, 12, 15, 13)]] (rmX d 1 6) (PX X [vR 1, vI l, vI p, vI w, vR 104] M) (QX X Q) 1 6 (AX X) := by
  refine va_MetW (cc := method_3_code) (maxL := 6) (ret := some .int) (hh := [(0, 12, 15, 13)]) (by decide) rfl ?_
  intro pp e st m args below meth c s₁ B hml hv
  obtain ⟨rfl, hKX, hR⟩ := hv
  rw [lg_entry_eq]
  have htab : c.exceptionTable.toList = tableOf [(0, 12, 15, 13)] := vx_table (x := m_L_parish.1) B (atoms_spec B.pre _ List.mem_cons_self)
  generalize ([vR 1, vI l, vI p, vI w, vR 104].map (cv X.2.2.2)).toArray = args0
  have hWV : WV (pp, e, rmX d 1 6, st, m, args0, below, meth, c, MQ below (QX X Q) args0 st 1 6 (AX X)) (fun _ => True) X d 1 6 m_L_parish 0 [some (vR 1), some (vI l), some (vI p), some (vI w), some (vR 104), none] [] M Q := by
    refine z_aload (tk K_L_parish 0 rfl) rfl (z_iconst (tk K_L_parish 1 rfl) ic_0 (z_aload_n (tk K_L_parish 2 rfl) rfl rfl (z_iload_n (tk K_L_parish 3 rfl) rfl rfl (z_iload_n (tk K_L_parish 4 rfl) rfl rfl (z_iload_n (tk K_L_parish 5 rfl) rfl rfl ?_)))))
    intro H locs cells slots ls E hL hZ hR2
    have hcl : CX X (d - 1) 1 6 m_X10_parish [vR 1, vI l, vI p, vI w] M (fun r M' => M' = M ∧ ∃ v, oPar (sNl s) (sLs s) l p w = some v ∧ r = some (vI (nI v))) (fun M' => M' = nw M 21 0 ∧ oPar (sNl s) (sLs s) l p w = none) := kp10_parish hfl (by omega) (by decide) (by decide) h (fun v hv => ⟨rfl, v, hv, rfl⟩) (fun hn => ⟨rfl, hn⟩)
    have ho1 := h.1.1.o
    obtain ⟨⟨w1, w2, w3⟩, w4, w5, w6, w7⟩ := mo_X10_parish
    simp only [Bool.and_eq_true, decide_eq_true_eq] at w3
    have hw : (wsM X.2.2.2 X.2.2.1 M)[1 - 1]? = some (X.2.2.2 + 1, .inr (10, fv X.2.2.2 M 1 10)) := by rw [ws_at (by decide) (isK_lt ho1), cE_obj ho1 w7]
    have e1 : cv X.2.2.2 (vR 1) = .ref (X.2.2.2 + 1) := rO_pos (show 0 < 1 by decide)
    have hrecv := va_recv E.2.2.2.2.2.1.2.1 hR2.2.2 (cls_at w7) hw
    have hpre : PreV st H m_X10_parish.1.cls (X.2.2.2 + 1) (PX X [vR 1, vI l, vI p, vI w] M) ([vI l, vI p, vI w].map (cv X.2.2.2)) := ⟨PX.blind, by rw [w6]; exact hrecv, fun U hU hW => by have := PX.pre (av := [vR 1, vI l, vI p, vI w]) E hR2 U hU hW; rw [List.map_cons, e1] at this; exact this⟩
    have hfit : cells + 1 ≤ (rmX d 1 6).cells ∧ slots + 6 ≤ (rmX d 1 6).slots := ⟨by have := E.2.2.2.1; omega, by have := E.2.2.2.2.1; omega⟩
    have hroom : (rmX (d - 1) 1 6).frames + 1 ≤ (rmX d 1 6).frames ∧ 8 + (m_X10_parish.2.2.1 + 11) + (rmX (d - 1) 1 6).locals ≤ (rmX d 1 6).locals := ⟨by show d - 1 + 1 ≤ d; omega, by show 8 + (5 + 11) + 64 * (d - 1) ≤ 64 * d; omega⟩
    have hdd := (⟨w3.1.1.1, w3.1.1.2, w3.1.2⟩ : m_X10_parish.1.cls ≠ "java/lang/invoke/MethodHandle" ∧ m_X10_parish.1.cls ≠ "java/lang/invoke/VarHandle" ∧ (parseMethodDescriptor m_X10_parish.1.desc).map (fun d => d.parameters.length) = some 3)
    have hts : ∀ w ∈ [Cond.code m_X10_parish.1 m_X10_parish.2.1 m_X10_parish.2.2.1 m_X10_parish.2.2.2], w.before args0 st = true := fun w q => by cases List.mem_singleton.mp q; exact wd E w2 args0
    have hfix : CallFix pp m c m_L_parish.2.1 m_L_parish.2.2.1 st args0 [Cond.code m_X10_parish.1 m_X10_parish.2.1 m_X10_parish.2.2.1 m_X10_parish.2.2.2] m_L_parish.1.cls := ⟨E.1.1, E.1.2.1, E.1.2.2.2.1, E.1.2.2.2.2.1, hts⟩
    have hl : Cond.methodLink "TwoPencilsLaw" 7 m_X10_parish.1 ∈ lw_tbl := ml_L_7
    have hst : ([vI w, vI p, vI l, vR 1, vI (nI 0), vR 104].map (cv X.2.2.2)) = ([vI l, vI p, vI w].map (cv X.2.2.2)).reverse ++ .ref (X.2.2.2 + 1) :: [vI (nI 0), vR 104].map (cv X.2.2.2) := by
      rw [← e1]; rfl
    have goOn : vx_Run pp X.1 e (rmX d 1 6) st m args0 below meth c H locs cells slots 1 6 (F0 m 7 ls ([vI w, vI p, vI l, vR 1, vI (nI 0), vR 104].map (cv X.2.2.2))) ([vI (nI 0), vR 104].map (cv X.2.2.2)) (QX X (fun r M' => M' = M ∧ ∃ v, oPar (sNl s) (sLs s) l p w = some v ∧ r = some (vI (nI v))) (Value.ref (X.2.2.2 + 1) :: [vI l, vI p, vI w].map (cv X.2.2.2)).toArray) (XX X (fun M' => M' = nw M 21 0 ∧ oPar (sNl s) (sLs s) l p w = none)) (AX X) :=
      vx_runV (C := m_X10_parish.1.cls) hfix hcl ⟨callB_of (rm := rmX (d - 1) 1 6) 3 hts (goodCode1 m_X10_parish) rfl rfl rfl (wd E w1 args0) (wd E hl args0) hdd hroom, wd E w4 args0, wd E w5 args0⟩ hpre rfl rfl hL.1 hst (by show 2 * 0 + _ ≤ 8; have := cat8 (b0 := X.2.2.2) [vI (nI 0), vR 104]; have e9 : wS [vI (nI 0), vR 104] = 2 := rfl; omega) (tk K_L_parish 6 rfl).1 hfit
    refine callGoX goOn E.2.2.2.2.2.2 (fun r M' H1 locs1 hq1 hR1 hS1 => ?_) (fun q ce M' H1 locs1 hP1 hR1 hS1 hce hcv hcl9 => ?_)
    · obtain ⟨rfl, v, hv, rfl⟩ := hq1
      have hWA : WA X d (1 - 1) (6 - 6) m_L_parish 10 [some (vR 1), some (vI l), some (vI p), some (vI w), some (vR 104), none] [vI (nI v), vI (nI 0), vR 104] M' Q := by
        refine x_i2l (tk K_L_parish 7 rfl) (x_last (tk K_L_parish 8 rfl) ho (na_in (by decide) (by decide)) (x_goto (t := 19) (tk K_L_parish 9 rfl) rfl (x_iconst (tk K_L_parish 13 rfl) ic_0 (x_ireturn (tk K_L_parish 14 rfl) rfl rfl ?_))))
        rw [na_ix (by decide)]
        exact hq v hv
      exact hWA pp e (rmX d 1 6) st m args0 below meth c H1 locs1 (cells + 1) (slots + 6) ls ((E.spend (by decide) (by decide)).on hS1) hL hR1
    · obtain ⟨rfl, hn⟩ := hP1
      have E1 := (E.spend (k1 := 1) (n1 := 6) (by decide) (by decide)).on hS1
      refine vx_catch (own := "TwoPencilsLaw") (name := nmX) (E := nmX) E.1.2.2.2.2.1 [] ⟨0, 12, 15, 13⟩ [] htab (fun z hz => nomatch hz) (by decide) (by decide) (wd E1 cl_L_13 args0) (wd E1 ca_X args0) hce hcv hcl9 ?_
      refine lv_astore (nL := 6) E.1.1 E.1.2.1 (tk K_L_parish 10 rfl).1 (lvs_has hL) (by decide) rfl (fun ls' h' => ?_)
      have hWA : WA X d (1 - 1) (6 - 6) m_L_parish 17 [] [] (nw M 21 0) Q := x_iconst (tk K_L_parish 11 rfl) ic_1 (x_ireturn (tk K_L_parish 12 rfl) rfl rfl (hx hn))
      exact hWA pp e (rmX d 1 6) st m args0 below meth c H1 locs1 (cells + 1) (slots + 6) ls' E1 ⟨h'.1, h'.2.1, fun i v hv => by simp at hv⟩ hR1
  exact hWV st.heap [] 0 0 _ ⟨⟨B.exec, B.bytes, B.returns, hml, findClass_of_methodNamed B.named, B.notSynchronized, (name_of_methodNamed B.named B.method).1⟩, Nat.le_refl _, Nat.le_refl _, by simp [rmX], by simp [rmX], hKX, va_S.rf⟩ (entL (av := [vR 1, vI l, vI p, vI w, vR 104]) (k := 1) rfl rfl) trivial hR
/-- the law's call of it -/
theorem z_callLP {pp : Program} {e : Env} {R : Room} {st : State} {m : MethodId} {args : Array Value} {below : List Frame} {meth : Method} {c : Code} {Qf : State → Prop} {Z : Array Slot → Prop} {pc n : Nat} {L : List (Option AV)} {S : List AV} {l p w : Int32} (hdc : DC m_L_law.2.1 pc (.invokestatic 48) 3 n) (hfl : X.1.stackTraces = false) (hd : 11 ≤ d) (hkc : 1 ≤ kc) (hns : 6 ≤ ns) (hS4 : wS S ≤ 8) (h : CI M s T) (ho : isK M 104 20 1)
    (kk : ∀ v, oPar (sNl s) (sLs s) l p w = some v → WV (pp, e, R, st, m, args, below, meth, c, Qf) Z X d (kc - 1) (ns - 6) m_L_law n L (vI (nI 0) :: S) (sJ M 104 0 (nI v).toInt64) Q)
    (kx : oPar (sNl s) (sLs s) l p w = none → WV (pp, e, R, st, m, args, below, meth, c, Qf) Z X d (kc - 1) (ns - 6) m_L_law n L (vI (nI 1) :: S) (nw M 21 0) Q) :
    WV (pp, e, R, st, m, args, below, meth, c, Qf) Z X d kc ns m_L_law pc L (vR 104 :: vI w :: vI p :: vI l :: vR 1 :: S) M Q := by
  obtain ⟨hdc, rfl⟩ := hdc
  intro H locs cells slots ls E hL hZ hR
  have hcl := kp_parishL (X := X) (d := d - 1) (Q := fun r M' => (∃ v, oPar (sNl s) (sLs s) l p w = some v ∧ r = some (vI (nI 0)) ∧ M' = sJ M 104 0 (nI v).toInt64) ∨ (oPar (sNl s) (sLs s) l p w = none ∧ r = some (vI (nI 1)) ∧ M' = nw M 21 0)) hfl (by omega) h ho (fun v hv => Or.inl ⟨v, hv, rfl, rfl⟩) (fun hn => Or.inr ⟨hn, rfl, rfl⟩)
  have hpre : PreS st H (PX X [vR 1, vI l, vI p, vI w, vR 104] M) ([vR 1, vI l, vI p, vI w, vR 104].map (cv X.2.2.2)) := ⟨PX.blind, PX.pre (av := [vR 1, vI l, vI p, vI w, vR 104]) E hR⟩
  have hfit : cells + 1 ≤ R.cells ∧ slots + 6 ≤ R.slots := ⟨by have := E.2.2.2.1; omega, by have := E.2.2.2.2.1; omega⟩
  have hroom : (rmX (d - 1) 1 6).frames + 1 ≤ R.frames ∧ 8 + (6 + 11) + (rmX (d - 1) 1 6).locals ≤ R.locals := ⟨by show d - 1 + 1 ≤ _; have := E.2.1; omega, by show 8 + (6 + 11) + 64 * (d - 1) ≤ _; have := E.2.2.1; omega⟩
  have hts : ∀ w ∈ [Cond.codeWith m_L_parish.1 method_3_code 6 (some .int) [(0, 12, 15, 13)]], w.before args st = true := fun w q => by cases List.mem_singleton.mp q; exact wd E cw_L args
  have hfix : CallFix pp m c m_L_law.2.1 m_L_law.2.2.1 st args [Cond.codeWith m_L_parish.1 method_3_code 6 (some .int) [(0, 12, 15, 13)]] m_L_law.1.cls := ⟨E.1.1, E.1.2.1, E.1.2.2.2.1, E.1.2.2.2.2.1, hts⟩
  have hlen : ∀ sig, parseMethodDescriptor m_L_parish.1.desc = some sig → 5 = sig.parameters.length := fun sig hs => by
    have h2 : (parseMethodDescriptor m_L_parish.1.desc).map (fun d => d.parameters.length) = some 5 := by decide
    rw [hs] at h2
    exact (Option.some.inj h2).symm
  have goOn : va_Run pp X.1 e R st m args below meth c H locs cells slots 1 6 (F0 m pc ls ((vR 104 :: vI w :: vI p :: vI l :: vR 1 :: S).map (cv X.2.2.2))) (S.map (cv X.2.2.2)) (QX X (fun r M' => (∃ v, oPar (sNl s) (sLs s) l p w = some v ∧ r = some (vI (nI 0)) ∧ M' = sJ M 104 0 (nI v).toInt64) ∨ (oPar (sNl s) (sLs s) l p w = none ∧ r = some (vI (nI 1)) ∧ M' = nw M 21 0)) ([vR 1, vI l, vI p, vI w, vR 104].map (cv X.2.2.2)).toArray) (AX X) :=
    vx_runSW hfix hcl ⟨⟨rfl, rfl, hroom.1, hroom.2, fun w q a' U hW => by cases List.mem_singleton.mp q; exact okw_warm rfl hW (fun a => E.2.2.2.2.2.1.1 _ cw_L rfl a) a', List.mem_cons_self⟩, wd E cw_L args, wd E is_L args, ⟨by decide, by decide⟩, hlen, wd E ml_L_48 args, wd E st_L args⟩ hpre rfl rfl hL.1 rfl (by show 2 * 0 + _ ≤ 8; have := cat8 (b0 := X.2.2.2) S; omega) hdc hfit
  refine callGo goOn E.2.2.2.2.2.2 fun r M' H1 locs1 hq hR1 hS1 => ?_
  rcases hq with ⟨v, hv, rfl, rfl⟩ | ⟨hn, rfl, rfl⟩
  · exact kk v hv H1 locs1 (cells + 1) (slots + 6) ls ((E.spend hkc hns).on hS1) hL hZ hR1
  · exact kx hn H1 locs1 (cells + 1) (slots + 6) ls ((E.spend hkc hns).on hS1) hL hZ hR1
end LPARISH
