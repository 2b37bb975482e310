-- TwoPencilsModel.in(III)Z
theorem b_X11_in_0 {X : Cx} {d kc ns : Nat} {M : Mem} {Q : Option AV → Mem → Prop} {l0 : Int32} {l1 : Int32} {l2 : Int32}
    (h : ((l0 < l1 → Q (some (vI (nI 0))) M) ∧ (¬ l0 < l1 → ((l2 < l0 → Q (some (vI (nI 0))) M) ∧ (¬ l2 < l0 → Q (some (vI (nI 1))) M))))) :
    WA X d kc ns m_X11_in 0 [some (vI l0), some (vI l1), some (vI l2)] [] M Q := by
  refine x_iload_n (tk K_X11_in 0 rfl) rfl rfl ?_
  refine x_iload_n (tk K_X11_in 1 rfl) rfl rfl ?_
  refine x_icmp_lt (t := 14) (tk K_X11_in 2 rfl) rfl (fun hc => ?_) (fun hc => ?_)
  · have h := h.1 hc
    refine x_iconst (tk K_X11_in 8 rfl) ic_0 ?_
    exact x_ireturn (tk K_X11_in 9 rfl) rfl (fitZ (Or.inl rfl)).1 h
  · have h := h.2 hc
    refine x_iload_n (tk K_X11_in 3 rfl) rfl rfl ?_
    refine x_iload_n (tk K_X11_in 4 rfl) rfl rfl ?_
    refine x_icmp_gt (t := 14) (tk K_X11_in 5 rfl) rfl (fun hc => ?_) (fun hc => ?_)
    · have h := h.1 hc
      refine x_iconst (tk K_X11_in 8 rfl) ic_0 ?_
      exact x_ireturn (tk K_X11_in 9 rfl) rfl (fitZ (Or.inl rfl)).1 h
    · have h := h.2 hc
      refine x_iconst (tk K_X11_in 6 rfl) ic_1 ?_
      refine x_goto (t := 15) (tk K_X11_in 7 rfl) rfl ?_
      exact x_ireturn (tk K_X11_in 9 rfl) rfl (fitZ (Or.inr rfl)).1 h

theorem e_X11_in {X : Cx} {d kc ns : Nat} {M : Mem} {Q : Option AV → Mem → Prop} {a0 : Int32} {a1 : Int32} {a2 : Int32} (h : WA X d kc ns m_X11_in 0 [some (vI a0), some (vI a1), some (vI a2)] [] M Q) : Cl X d kc ns m_X11_in [vI a0, vI a1, vI a2] M Q := Cl.intro (k := 0) (by decide) rfl rfl h

-- TwoPencilsModel.<init>()V
theorem b_X11_init_0 {X : Cx} {d kc ns : Nat} {M : Mem} {Q : Option AV → Mem → Prop} {l0 : Nat} (hS : isK M l0 11 54) (hd : 1 ≤ d)
    (h : vp_in (nI 300) 65536 ∧ 1 ≤ kc ∧ ix (nI 300) ≤ ns ∧ ∀ M1 : Mem, M1 = nw M 14 (ix (nI 300)) → ∀ M2 : Mem, M2 = sR M1 l0 1 (nx M) → vp_in (nI 7) 65536 ∧ 1 ≤ (kc - 1) ∧ ix (nI 7) ≤ (ns - ix (nI 300)) ∧ ∀ M3 : Mem, M3 = nw M2 14 (ix (nI 7)) → ∀ M4 : Mem, M4 = sR M3 l0 5 (nx M2) → vp_in (nI 7) 65536 ∧ 1 ≤ ((kc - 1) - 1) ∧ ix (nI 7) ≤ ((ns - ix (nI 300)) - ix (nI 7)) ∧ ∀ M5 : Mem, M5 = nw M4 14 (ix (nI 7)) → ∀ M6 : Mem, M6 = sR M5 l0 6 (nx M4) → vp_in (nI 7) 65536 ∧ 1 ≤ (((kc - 1) - 1) - 1) ∧ ix (nI 7) ≤ (((ns - ix (nI 300)) - ix (nI 7)) - ix (nI 7)) ∧ ∀ M7 : Mem, M7 = nw M6 14 (ix (nI 7)) → ∀ M8 : Mem, M8 = sR M7 l0 7 (nx M6) → vp_in (nI 7) 65536 ∧ 1 ≤ ((((kc - 1) - 1) - 1) - 1) ∧ ix (nI 7) ≤ ((((ns - ix (nI 300)) - ix (nI 7)) - ix (nI 7)) - ix (nI 7)) ∧ ∀ M9 : Mem, M9 = nw M8 14 (ix (nI 7)) → ∀ M10 : Mem, M10 = sR M9 l0 8 (nx M8) → vp_in (nI 189) 65536 ∧ 1 ≤ (((((kc - 1) - 1) - 1) - 1) - 1) ∧ ix (nI 189) ≤ (((((ns - ix (nI 300)) - ix (nI 7)) - ix (nI 7)) - ix (nI 7)) - ix (nI 7)) ∧ ∀ M11 : Mem, M11 = nw M10 14 (ix (nI 189)) → ∀ M12 : Mem, M12 = sR M11 l0 9 (nx M10) → vp_in (nI 63) 65536 ∧ 1 ≤ ((((((kc - 1) - 1) - 1) - 1) - 1) - 1) ∧ ix (nI 63) ≤ ((((((ns - ix (nI 300)) - ix (nI 7)) - ix (nI 7)) - ix (nI 7)) - ix (nI 7)) - ix (nI 189)) ∧ ∀ M13 : Mem, M13 = nw M12 14 (ix (nI 63)) → ∀ M14 : Mem, M14 = sR M13 l0 10 (nx M12) → vp_in (nI 63) 65536 ∧ 1 ≤ (((((((kc - 1) - 1) - 1) - 1) - 1) - 1) - 1) ∧ ix (nI 63) ≤ (((((((ns - ix (nI 300)) - ix (nI 7)) - ix (nI 7)) - ix (nI 7)) - ix (nI 7)) - ix (nI 189)) - ix (nI 63)) ∧ ∀ M15 : Mem, M15 = nw M14 14 (ix (nI 63)) → ∀ M16 : Mem, M16 = sR M15 l0 11 (nx M14) → vp_in (nI 9) 65536 ∧ 1 ≤ ((((((((kc - 1) - 1) - 1) - 1) - 1) - 1) - 1) - 1) ∧ ix (nI 9) ≤ ((((((((ns - ix (nI 300)) - ix (nI 7)) - ix (nI 7)) - ix (nI 7)) - ix (nI 7)) - ix (nI 189)) - ix (nI 63)) - ix (nI 63)) ∧ ∀ M17 : Mem, M17 = nw M16 14 (ix (nI 9)) → ∀ M18 : Mem, M18 = sR M17 l0 13 (nx M16) → vp_in (nI 54) 65536 ∧ 1 ≤ (((((((((kc - 1) - 1) - 1) - 1) - 1) - 1) - 1) - 1) - 1) ∧ ix (nI 54) ≤ (((((((((ns - ix (nI 300)) - ix (nI 7)) - ix (nI 7)) - ix (nI 7)) - ix (nI 7)) - ix (nI 189)) - ix (nI 63)) - ix (nI 63)) - ix (nI 9)) ∧ ∀ M19 : Mem, M19 = nw M18 14 (ix (nI 54)) → ∀ M20 : Mem, M20 = sR M19 l0 14 (nx M18) → vp_in (nI 54) 65536 ∧ 1 ≤ ((((((((((kc - 1) - 1) - 1) - 1) - 1) - 1) - 1) - 1) - 1) - 1) ∧ ix (nI 54) ≤ ((((((((((ns - ix (nI 300)) - ix (nI 7)) - ix (nI 7)) - ix (nI 7)) - ix (nI 7)) - ix (nI 189)) - ix (nI 63)) - ix (nI 63)) - ix (nI 9)) - ix (nI 54)) ∧ ∀ M21 : Mem, M21 = nw M20 14 (ix (nI 54)) → ∀ M22 : Mem, M22 = sR M21 l0 15 (nx M20) → vp_in (nI 512) 65536 ∧ 1 ≤ (((((((((((kc - 1) - 1) - 1) - 1) - 1) - 1) - 1) - 1) - 1) - 1) - 1) ∧ ix (nI 512) ≤ (((((((((((ns - ix (nI 300)) - ix (nI 7)) - ix (nI 7)) - ix (nI 7)) - ix (nI 7)) - ix (nI 189)) - ix (nI 63)) - ix (nI 63)) - ix (nI 9)) - ix (nI 54)) - ix (nI 54)) ∧ ∀ M23 : Mem, M23 = nw M22 14 (ix (nI 512)) → ∀ M24 : Mem, M24 = sR M23 l0 17 (nx M22) → vp_in (nI 512) 65536 ∧ 1 ≤ ((((((((((((kc - 1) - 1) - 1) - 1) - 1) - 1) - 1) - 1) - 1) - 1) - 1) - 1) ∧ ix (nI 512) ≤ ((((((((((((ns - ix (nI 300)) - ix (nI 7)) - ix (nI 7)) - ix (nI 7)) - ix (nI 7)) - ix (nI 189)) - ix (nI 63)) - ix (nI 63)) - ix (nI 9)) - ix (nI 54)) - ix (nI 54)) - ix (nI 512)) ∧ ∀ M25 : Mem, M25 = nw M24 14 (ix (nI 512)) → ∀ M26 : Mem, M26 = sR M25 l0 18 (nx M24) → vp_in (nI 40000) 65536 ∧ 1 ≤ (((((((((((((kc - 1) - 1) - 1) - 1) - 1) - 1) - 1) - 1) - 1) - 1) - 1) - 1) - 1) ∧ ix (nI 40000) ≤ (((((((((((((ns - ix (nI 300)) - ix (nI 7)) - ix (nI 7)) - ix (nI 7)) - ix (nI 7)) - ix (nI 189)) - ix (nI 63)) - ix (nI 63)) - ix (nI 9)) - ix (nI 54)) - ix (nI 54)) - ix (nI 512)) - ix (nI 512)) ∧ ∀ M27 : Mem, M27 = nw M26 14 (ix (nI 40000)) → ∀ M28 : Mem, M28 = sR M27 l0 20 (nx M26) → vp_in (nI 40) 65536 ∧ 1 ≤ ((((((((((((((kc - 1) - 1) - 1) - 1) - 1) - 1) - 1) - 1) - 1) - 1) - 1) - 1) - 1) - 1) ∧ ix (nI 40) ≤ ((((((((((((((ns - ix (nI 300)) - ix (nI 7)) - ix (nI 7)) - ix (nI 7)) - ix (nI 7)) - ix (nI 189)) - ix (nI 63)) - ix (nI 63)) - ix (nI 9)) - ix (nI 54)) - ix (nI 54)) - ix (nI 512)) - ix (nI 512)) - ix (nI 40000)) ∧ ∀ M29 : Mem, M29 = nw M28 14 (ix (nI 40)) → ∀ M30 : Mem, M30 = sR M29 l0 21 (nx M28) → vp_in (nI 4) 65536 ∧ 1 ≤ (((((((((((((((kc - 1) - 1) - 1) - 1) - 1) - 1) - 1) - 1) - 1) - 1) - 1) - 1) - 1) - 1) - 1) ∧ ix (nI 4) ≤ (((((((((((((((ns - ix (nI 300)) - ix (nI 7)) - ix (nI 7)) - ix (nI 7)) - ix (nI 7)) - ix (nI 189)) - ix (nI 63)) - ix (nI 63)) - ix (nI 9)) - ix (nI 54)) - ix (nI 54)) - ix (nI 512)) - ix (nI 512)) - ix (nI 40000)) - ix (nI 40)) ∧ ∀ M31 : Mem, M31 = nw M30 14 (ix (nI 4)) → ∀ M32 : Mem, M32 = sR M31 l0 23 (nx M30) → vp_in (nI 4) 65536 ∧ 1 ≤ ((((((((((((((((kc - 1) - 1) - 1) - 1) - 1) - 1) - 1) - 1) - 1) - 1) - 1) - 1) - 1) - 1) - 1) - 1) ∧ ix (nI 4) ≤ ((((((((((((((((ns - ix (nI 300)) - ix (nI 7)) - ix (nI 7)) - ix (nI 7)) - ix (nI 7)) - ix (nI 189)) - ix (nI 63)) - ix (nI 63)) - ix (nI 9)) - ix (nI 54)) - ix (nI 54)) - ix (nI 512)) - ix (nI 512)) - ix (nI 40000)) - ix (nI 40)) - ix (nI 4)) ∧ ∀ M33 : Mem, M33 = nw M32 14 (ix (nI 4)) → ∀ M34 : Mem, M34 = sR M33 l0 33 (nx M32) → vp_in (nI 8) 65536 ∧ 1 ≤ (((((((((((((((((kc - 1) - 1) - 1) - 1) - 1) - 1) - 1) - 1) - 1) - 1) - 1) - 1) - 1) - 1) - 1) - 1) - 1) ∧ ix (nI 8) ≤ (((((((((((((((((ns - ix (nI 300)) - ix (nI 7)) - ix (nI 7)) - ix (nI 7)) - ix (nI 7)) - ix (nI 189)) - ix (nI 63)) - ix (nI 63)) - ix (nI 9)) - ix (nI 54)) - ix (nI 54)) - ix (nI 512)) - ix (nI 512)) - ix (nI 40000)) - ix (nI 40)) - ix (nI 4)) - ix (nI 4)) ∧ ∀ M35 : Mem, M35 = nw M34 14 (ix (nI 8)) → ∀ M36 : Mem, M36 = sR M35 l0 34 (nx M34) → vp_in (nI 2560) 65536 ∧ 1 ≤ ((((((((((((((((((kc - 1) - 1) - 1) - 1) - 1) - 1) - 1) - 1) - 1) - 1) - 1) - 1) - 1) - 1) - 1) - 1) - 1) - 1) ∧ ix (nI 2560) ≤ ((((((((((((((((((ns - ix (nI 300)) - ix (nI 7)) - ix (nI 7)) - ix (nI 7)) - ix (nI 7)) - ix (nI 189)) - ix (nI 63)) - ix (nI 63)) - ix (nI 9)) - ix (nI 54)) - ix (nI 54)) - ix (nI 512)) - ix (nI 512)) - ix (nI 40000)) - ix (nI 40)) - ix (nI 4)) - ix (nI 4)) - ix (nI 8)) ∧ ∀ M37 : Mem, M37 = nw M36 14 (ix (nI 2560)) → ∀ M38 : Mem, M38 = sR M37 l0 43 (nx M36) → vp_in (nI 2560) 65536 ∧ 1 ≤ (((((((((((((((((((kc - 1) - 1) - 1) - 1) - 1) - 1) - 1) - 1) - 1) - 1) - 1) - 1) - 1) - 1) - 1) - 1) - 1) - 1) - 1) ∧ ix (nI 2560) ≤ (((((((((((((((((((ns - ix (nI 300)) - ix (nI 7)) - ix (nI 7)) - ix (nI 7)) - ix (nI 7)) - ix (nI 189)) - ix (nI 63)) - ix (nI 63)) - ix (nI 9)) - ix (nI 54)) - ix (nI 54)) - ix (nI 512)) - ix (nI 512)) - ix (nI 40000)) - ix (nI 40)) - ix (nI 4)) - ix (nI 4)) - ix (nI 8)) - ix (nI 2560)) ∧ ∀ M39 : Mem, M39 = nw M38 15 (ix (nI 2560)) → ∀ M40 : Mem, M40 = sR M39 l0 44 (nx M38) → vp_in (nI 8000) 65536 ∧ 1 ≤ ((((((((((((((((((((kc - 1) - 1) - 1) - 1) - 1) - 1) - 1) - 1) - 1) - 1) - 1) - 1) - 1) - 1) - 1) - 1) - 1) - 1) - 1) - 1) ∧ ix (nI 8000) ≤ ((((((((((((((((((((ns - ix (nI 300)) - ix (nI 7)) - ix (nI 7)) - ix (nI 7)) - ix (nI 7)) - ix (nI 189)) - ix (nI 63)) - ix (nI 63)) - ix (nI 9)) - ix (nI 54)) - ix (nI 54)) - ix (nI 512)) - ix (nI 512)) - ix (nI 40000)) - ix (nI 40)) - ix (nI 4)) - ix (nI 4)) - ix (nI 8)) - ix (nI 2560)) - ix (nI 2560)) ∧ ∀ M41 : Mem, M41 = nw M40 14 (ix (nI 8000)) → ∀ M42 : Mem, M42 = sR M41 l0 45 (nx M40) → vp_in (nI 8) 65536 ∧ 1 ≤ (((((((((((((((((((((kc - 1) - 1) - 1) - 1) - 1) - 1) - 1) - 1) - 1) - 1) - 1) - 1) - 1) - 1) - 1) - 1) - 1) - 1) - 1) - 1) - 1) ∧ ix (nI 8) ≤ (((((((((((((((((((((ns - ix (nI 300)) - ix (nI 7)) - ix (nI 7)) - ix (nI 7)) - ix (nI 7)) - ix (nI 189)) - ix (nI 63)) - ix (nI 63)) - ix (nI 9)) - ix (nI 54)) - ix (nI 54)) - ix (nI 512)) - ix (nI 512)) - ix (nI 40000)) - ix (nI 40)) - ix (nI 4)) - ix (nI 4)) - ix (nI 8)) - ix (nI 2560)) - ix (nI 2560)) - ix (nI 8000)) ∧ ∀ M43 : Mem, M43 = nw M42 14 (ix (nI 8)) → ∀ M44 : Mem, M44 = sR M43 l0 46 (nx M42) → vp_in (nI 8) 65536 ∧ 1 ≤ ((((((((((((((((((((((kc - 1) - 1) - 1) - 1) - 1) - 1) - 1) - 1) - 1) - 1) - 1) - 1) - 1) - 1) - 1) - 1) - 1) - 1) - 1) - 1) - 1) - 1) ∧ ix (nI 8) ≤ ((((((((((((((((((((((ns - ix (nI 300)) - ix (nI 7)) - ix (nI 7)) - ix (nI 7)) - ix (nI 7)) - ix (nI 189)) - ix (nI 63)) - ix (nI 63)) - ix (nI 9)) - ix (nI 54)) - ix (nI 54)) - ix (nI 512)) - ix (nI 512)) - ix (nI 40000)) - ix (nI 40)) - ix (nI 4)) - ix (nI 4)) - ix (nI 8)) - ix (nI 2560)) - ix (nI 2560)) - ix (nI 8000)) - ix (nI 8)) ∧ ∀ M45 : Mem, M45 = nw M44 14 (ix (nI 8)) → ∀ M46 : Mem, M46 = sR M45 l0 47 (nx M44) → vp_in (nI 96) 65536 ∧ 1 ≤ (((((((((((((((((((((((kc - 1) - 1) - 1) - 1) - 1) - 1) - 1) - 1) - 1) - 1) - 1) - 1) - 1) - 1) - 1) - 1) - 1) - 1) - 1) - 1) - 1) - 1) - 1) ∧ ix (nI 96) ≤ (((((((((((((((((((((((ns - ix (nI 300)) - ix (nI 7)) - ix (nI 7)) - ix (nI 7)) - ix (nI 7)) - ix (nI 189)) - ix (nI 63)) - ix (nI 63)) - ix (nI 9)) - ix (nI 54)) - ix (nI 54)) - ix (nI 512)) - ix (nI 512)) - ix (nI 40000)) - ix (nI 40)) - ix (nI 4)) - ix (nI 4)) - ix (nI 8)) - ix (nI 2560)) - ix (nI 2560)) - ix (nI 8000)) - ix (nI 8)) - ix (nI 8)) ∧ ∀ M47 : Mem, M47 = nw M46 14 (ix (nI 96)) → ∀ M48 : Mem, M48 = sR M47 l0 48 (nx M46) → vp_in (nI 96) 65536 ∧ 1 ≤ ((((((((((((((((((((((((kc - 1) - 1) - 1) - 1) - 1) - 1) - 1) - 1) - 1) - 1) - 1) - 1) - 1) - 1) - 1) - 1) - 1) - 1) - 1) - 1) - 1) - 1) - 1) - 1) ∧ ix (nI 96) ≤ ((((((((((((((((((((((((ns - ix (nI 300)) - ix (nI 7)) - ix (nI 7)) - ix (nI 7)) - ix (nI 7)) - ix (nI 189)) - ix (nI 63)) - ix (nI 63)) - ix (nI 9)) - ix (nI 54)) - ix (nI 54)) - ix (nI 512)) - ix (nI 512)) - ix (nI 40000)) - ix (nI 40)) - ix (nI 4)) - ix (nI 4)) - ix (nI 8)) - ix (nI 2560)) - ix (nI 2560)) - ix (nI 8000)) - ix (nI 8)) - ix (nI 8)) - ix (nI 96)) ∧ ∀ M49 : Mem, M49 = nw M48 14 (ix (nI 96)) → ∀ M50 : Mem, M50 = sR M49 l0 49 (nx M48) → vp_in (nI 8) 65536 ∧ 1 ≤ (((((((((((((((((((((((((kc - 1) - 1) - 1) - 1) - 1) - 1) - 1) - 1) - 1) - 1) - 1) - 1) - 1) - 1) - 1) - 1) - 1) - 1) - 1) - 1) - 1) - 1) - 1) - 1) - 1) ∧ ix (nI 8) ≤ (((((((((((((((((((((((((ns - ix (nI 300)) - ix (nI 7)) - ix (nI 7)) - ix (nI 7)) - ix (nI 7)) - ix (nI 189)) - ix (nI 63)) - ix (nI 63)) - ix (nI 9)) - ix (nI 54)) - ix (nI 54)) - ix (nI 512)) - ix (nI 512)) - ix (nI 40000)) - ix (nI 40)) - ix (nI 4)) - ix (nI 4)) - ix (nI 8)) - ix (nI 2560)) - ix (nI 2560)) - ix (nI 8000)) - ix (nI 8)) - ix (nI 8)) - ix (nI 96)) - ix (nI 96)) ∧ ∀ M51 : Mem, M51 = nw M50 14 (ix (nI 8)) → ∀ M52 : Mem, M52 = sR M51 l0 50 (nx M50) → vp_in (nI 2) 65536 ∧ 1 ≤ ((((((((((((((((((((((((((kc - 1) - 1) - 1) - 1) - 1) - 1) - 1) - 1) - 1) - 1) - 1) - 1) - 1) - 1) - 1) - 1) - 1) - 1) - 1) - 1) - 1) - 1) - 1) - 1) - 1) - 1) ∧ ix (nI 2) ≤ ((((((((((((((((((((((((((ns - ix (nI 300)) - ix (nI 7)) - ix (nI 7)) - ix (nI 7)) - ix (nI 7)) - ix (nI 189)) - ix (nI 63)) - ix (nI 63)) - ix (nI 9)) - ix (nI 54)) - ix (nI 54)) - ix (nI 512)) - ix (nI 512)) - ix (nI 40000)) - ix (nI 40)) - ix (nI 4)) - ix (nI 4)) - ix (nI 8)) - ix (nI 2560)) - ix (nI 2560)) - ix (nI 8000)) - ix (nI 8)) - ix (nI 8)) - ix (nI 96)) - ix (nI 96)) - ix (nI 8)) ∧ ∀ M53 : Mem, M53 = nw M52 14 (ix (nI 2)) → ∀ M54 : Mem, M54 = sR M53 l0 52 (nx M52) → vp_in (nI 2) 65536 ∧ 1 ≤ (((((((((((((((((((((((((((kc - 1) - 1) - 1) - 1) - 1) - 1) - 1) - 1) - 1) - 1) - 1) - 1) - 1) - 1) - 1) - 1) - 1) - 1) - 1) - 1) - 1) - 1) - 1) - 1) - 1) - 1) - 1) ∧ ix (nI 2) ≤ (((((((((((((((((((((((((((ns - ix (nI 300)) - ix (nI 7)) - ix (nI 7)) - ix (nI 7)) - ix (nI 7)) - ix (nI 189)) - ix (nI 63)) - ix (nI 63)) - ix (nI 9)) - ix (nI 54)) - ix (nI 54)) - ix (nI 512)) - ix (nI 512)) - ix (nI 40000)) - ix (nI 40)) - ix (nI 4)) - ix (nI 4)) - ix (nI 8)) - ix (nI 2560)) - ix (nI 2560)) - ix (nI 8000)) - ix (nI 8)) - ix (nI 8)) - ix (nI 96)) - ix (nI 96)) - ix (nI 8)) - ix (nI 2)) ∧ ∀ M55 : Mem, M55 = nw M54 14 (ix (nI 2)) → ∀ M56 : Mem, M56 = sR M55 l0 53 (nx M54) → Q none M56) :
    WA X d kc ns m_X11_init 0 [some (vR l0)] [] M Q := by
  refine x_aload_n (tk K_X11_init 0 rfl) rfl rfl ?_
  refine x_objInit (tk K_X11_init 1 rfl) oi_X11_1 oi_in oi_code hS (by decide) hd ?_
  refine x_aload_n (tk K_X11_init 2 rfl) rfl rfl ?_
  refine x_sipush (tk K_X11_init 3 rfl) sp_300 ?_
  have hx := h.1
  have hk := h.2.1
  have hn := h.2.2.1
  have h := h.2.2.2
  refine x_newa (k := 14) (tk K_X11_init 4 rfl) rfl ac_14 hx hk hn ?_
  refine WA_nm (fun M1 e_M1 => ?_)
  have h := h M1 e_M1
  have hT1 : isK M1 (nx M) 14 (ix (nI 300)) := by rw [e_M1]; exact isK_nw
  have hT2 : isK M1 l0 11 54 := by rw [e_M1]; exact (isK_nw_old hS)
  refine x_putR (tk K_X11_init 5 rfl) f_X11_7 rfl rfl (Or.inr ⟨rfl, rfl, rfl, l_X11_7⟩) hT2 ?_
  refine WA_nm (fun M2 e_M2 => ?_)
  have h := h M2 e_M2
  have hT3 : isK M2 l0 11 54 := by rw [e_M2]; exact hT2
  refine x_aload_n (tk K_X11_init 6 rfl) rfl rfl ?_
  refine x_bipush (tk K_X11_init 7 rfl) bp_7 ?_
  have hx := h.1
  have hk := h.2.1
  have hn := h.2.2.1
  have h := h.2.2.2
  refine x_newa (k := 14) (tk K_X11_init 8 rfl) rfl ac_14 hx hk hn ?_
  refine WA_nm (fun M3 e_M3 => ?_)
  have h := h M3 e_M3
  have hT5 : isK M3 (nx M2) 14 (ix (nI 7)) := by rw [e_M3]; exact isK_nw
  have hT6 : isK M3 l0 11 54 := by rw [e_M3]; exact (isK_nw_old hT3)
  refine x_putR (tk K_X11_init 9 rfl) f_X11_13 rfl rfl (Or.inr ⟨rfl, rfl, rfl, l_X11_13⟩) hT6 ?_
  refine WA_nm (fun M4 e_M4 => ?_)
  have h := h M4 e_M4
  have hT7 : isK M4 l0 11 54 := by rw [e_M4]; exact hT6
  refine x_aload_n (tk K_X11_init 10 rfl) rfl rfl ?_
  refine x_bipush (tk K_X11_init 11 rfl) bp_7 ?_
  have hx := h.1
  have hk := h.2.1
  have hn := h.2.2.1
  have h := h.2.2.2
  refine x_newa (k := 14) (tk K_X11_init 12 rfl) rfl ac_14 hx hk hn ?_
  refine WA_nm (fun M5 e_M5 => ?_)
  have h := h M5 e_M5
  have hT9 : isK M5 (nx M4) 14 (ix (nI 7)) := by rw [e_M5]; exact isK_nw
  have hT10 : isK M5 l0 11 54 := by rw [e_M5]; exact (isK_nw_old hT7)
  refine x_putR (tk K_X11_init 13 rfl) f_X11_16 rfl rfl (Or.inr ⟨rfl, rfl, rfl, l_X11_16⟩) hT10 ?_
  refine WA_nm (fun M6 e_M6 => ?_)
  have h := h M6 e_M6
  have hT11 : isK M6 l0 11 54 := by rw [e_M6]; exact hT10
  refine x_aload_n (tk K_X11_init 14 rfl) rfl rfl ?_
  refine x_bipush (tk K_X11_init 15 rfl) bp_7 ?_
  have hx := h.1
  have hk := h.2.1
  have hn := h.2.2.1
  have h := h.2.2.2
  refine x_newa (k := 14) (tk K_X11_init 16 rfl) rfl ac_14 hx hk hn ?_
  refine WA_nm (fun M7 e_M7 => ?_)
  have h := h M7 e_M7
  have hT13 : isK M7 (nx M6) 14 (ix (nI 7)) := by rw [e_M7]; exact isK_nw
  have hT14 : isK M7 l0 11 54 := by rw [e_M7]; exact (isK_nw_old hT11)
  refine x_putR (tk K_X11_init 17 rfl) f_X11_19 rfl rfl (Or.inr ⟨rfl, rfl, rfl, l_X11_19⟩) hT14 ?_
  refine WA_nm (fun M8 e_M8 => ?_)
  have h := h M8 e_M8
  have hT15 : isK M8 l0 11 54 := by rw [e_M8]; exact hT14
  refine x_aload_n (tk K_X11_init 18 rfl) rfl rfl ?_
  refine x_bipush (tk K_X11_init 19 rfl) bp_7 ?_
  have hx := h.1
  have hk := h.2.1
  have hn := h.2.2.1
  have h := h.2.2.2
  refine x_newa (k := 14) (tk K_X11_init 20 rfl) rfl ac_14 hx hk hn ?_
  refine WA_nm (fun M9 e_M9 => ?_)
  have h := h M9 e_M9
  have hT17 : isK M9 (nx M8) 14 (ix (nI 7)) := by rw [e_M9]; exact isK_nw
  have hT18 : isK M9 l0 11 54 := by rw [e_M9]; exact (isK_nw_old hT15)
  refine x_putR (tk K_X11_init 21 rfl) f_X11_22 rfl rfl (Or.inr ⟨rfl, rfl, rfl, l_X11_22⟩) hT18 ?_
  refine WA_nm (fun M10 e_M10 => ?_)
  have h := h M10 e_M10
  have hT19 : isK M10 l0 11 54 := by rw [e_M10]; exact hT18
  refine x_aload_n (tk K_X11_init 22 rfl) rfl rfl ?_
  refine x_sipush (tk K_X11_init 23 rfl) sp_189 ?_
  have hx := h.1
  have hk := h.2.1
  have hn := h.2.2.1
  have h := h.2.2.2
  refine x_newa (k := 14) (tk K_X11_init 24 rfl) rfl ac_14 hx hk hn ?_
  refine WA_nm (fun M11 e_M11 => ?_)
  have h := h M11 e_M11
  have hT21 : isK M11 (nx M10) 14 (ix (nI 189)) := by rw [e_M11]; exact isK_nw
  have hT22 : isK M11 l0 11 54 := by rw [e_M11]; exact (isK_nw_old hT19)
  refine x_putR (tk K_X11_init 25 rfl) f_X11_25 rfl rfl (Or.inr ⟨rfl, rfl, rfl, l_X11_25⟩) hT22 ?_
  refine WA_nm (fun M12 e_M12 => ?_)
  have h := h M12 e_M12
  have hT23 : isK M12 l0 11 54 := by rw [e_M12]; exact hT22
  refine x_aload_n (tk K_X11_init 26 rfl) rfl rfl ?_
  refine x_bipush (tk K_X11_init 27 rfl) bp_63 ?_
  have hx := h.1
  have hk := h.2.1
  have hn := h.2.2.1
  have h := h.2.2.2
  refine x_newa (k := 14) (tk K_X11_init 28 rfl) rfl ac_14 hx hk hn ?_
  refine WA_nm (fun M13 e_M13 => ?_)
  have h := h M13 e_M13
  have hT25 : isK M13 (nx M12) 14 (ix (nI 63)) := by rw [e_M13]; exact isK_nw
  have hT26 : isK M13 l0 11 54 := by rw [e_M13]; exact (isK_nw_old hT23)
  refine x_putR (tk K_X11_init 29 rfl) f_X11_28 rfl rfl (Or.inr ⟨rfl, rfl, rfl, l_X11_28⟩) hT26 ?_
  refine WA_nm (fun M14 e_M14 => ?_)
  have h := h M14 e_M14
  have hT27 : isK M14 l0 11 54 := by rw [e_M14]; exact hT26
  refine x_aload_n (tk K_X11_init 30 rfl) rfl rfl ?_
  refine x_bipush (tk K_X11_init 31 rfl) bp_63 ?_
  have hx := h.1
  have hk := h.2.1
  have hn := h.2.2.1
  have h := h.2.2.2
  refine x_newa (k := 14) (tk K_X11_init 32 rfl) rfl ac_14 hx hk hn ?_
  refine WA_nm (fun M15 e_M15 => ?_)
  have h := h M15 e_M15
  have hT29 : isK M15 (nx M14) 14 (ix (nI 63)) := by rw [e_M15]; exact isK_nw
  have hT30 : isK M15 l0 11 54 := by rw [e_M15]; exact (isK_nw_old hT27)
  refine x_putR (tk K_X11_init 33 rfl) f_X11_31 rfl rfl (Or.inr ⟨rfl, rfl, rfl, l_X11_31⟩) hT30 ?_
  refine WA_nm (fun M16 e_M16 => ?_)
  have h := h M16 e_M16
  have hT31 : isK M16 l0 11 54 := by rw [e_M16]; exact hT30
  refine x_aload_n (tk K_X11_init 34 rfl) rfl rfl ?_
  refine x_bipush (tk K_X11_init 35 rfl) bp_9 ?_
  have hx := h.1
  have hk := h.2.1
  have hn := h.2.2.1
  have h := h.2.2.2
  refine x_newa (k := 14) (tk K_X11_init 36 rfl) rfl ac_14 hx hk hn ?_
  refine WA_nm (fun M17 e_M17 => ?_)
  have h := h M17 e_M17
  have hT33 : isK M17 (nx M16) 14 (ix (nI 9)) := by rw [e_M17]; exact isK_nw
  have hT34 : isK M17 l0 11 54 := by rw [e_M17]; exact (isK_nw_old hT31)
  refine x_putR (tk K_X11_init 37 rfl) f_X11_34 rfl rfl (Or.inr ⟨rfl, rfl, rfl, l_X11_34⟩) hT34 ?_
  refine WA_nm (fun M18 e_M18 => ?_)
  have h := h M18 e_M18
  have hT35 : isK M18 l0 11 54 := by rw [e_M18]; exact hT34
  refine x_aload_n (tk K_X11_init 38 rfl) rfl rfl ?_
  refine x_bipush (tk K_X11_init 39 rfl) bp_54 ?_
  have hx := h.1
  have hk := h.2.1
  have hn := h.2.2.1
  have h := h.2.2.2
  refine x_newa (k := 14) (tk K_X11_init 40 rfl) rfl ac_14 hx hk hn ?_
  refine WA_nm (fun M19 e_M19 => ?_)
  have h := h M19 e_M19
  have hT37 : isK M19 (nx M18) 14 (ix (nI 54)) := by rw [e_M19]; exact isK_nw
  have hT38 : isK M19 l0 11 54 := by rw [e_M19]; exact (isK_nw_old hT35)
  refine x_putR (tk K_X11_init 41 rfl) f_X11_37 rfl rfl (Or.inr ⟨rfl, rfl, rfl, l_X11_37⟩) hT38 ?_
  refine WA_nm (fun M20 e_M20 => ?_)
  have h := h M20 e_M20
  have hT39 : isK M20 l0 11 54 := by rw [e_M20]; exact hT38
  refine x_aload_n (tk K_X11_init 42 rfl) rfl rfl ?_
  refine x_bipush (tk K_X11_init 43 rfl) bp_54 ?_
  have hx := h.1
  have hk := h.2.1
  have hn := h.2.2.1
  have h := h.2.2.2
  refine x_newa (k := 14) (tk K_X11_init 44 rfl) rfl ac_14 hx hk hn ?_
  refine WA_nm (fun M21 e_M21 => ?_)
  have h := h M21 e_M21
  have hT41 : isK M21 (nx M20) 14 (ix (nI 54)) := by rw [e_M21]; exact isK_nw
  have hT42 : isK M21 l0 11 54 := by rw [e_M21]; exact (isK_nw_old hT39)
  refine x_putR (tk K_X11_init 45 rfl) f_X11_40 rfl rfl (Or.inr ⟨rfl, rfl, rfl, l_X11_40⟩) hT42 ?_
  refine WA_nm (fun M22 e_M22 => ?_)
  have h := h M22 e_M22
  have hT43 : isK M22 l0 11 54 := by rw [e_M22]; exact hT42
  refine x_aload_n (tk K_X11_init 46 rfl) rfl rfl ?_
  refine x_sipush (tk K_X11_init 47 rfl) sp_512 ?_
  have hx := h.1
  have hk := h.2.1
  have hn := h.2.2.1
  have h := h.2.2.2
  refine x_newa (k := 14) (tk K_X11_init 48 rfl) rfl ac_14 hx hk hn ?_
  refine WA_nm (fun M23 e_M23 => ?_)
  have h := h M23 e_M23
  have hT45 : isK M23 (nx M22) 14 (ix (nI 512)) := by rw [e_M23]; exact isK_nw
  have hT46 : isK M23 l0 11 54 := by rw [e_M23]; exact (isK_nw_old hT43)
  refine x_putR (tk K_X11_init 49 rfl) f_X11_43 rfl rfl (Or.inr ⟨rfl, rfl, rfl, l_X11_43⟩) hT46 ?_
  refine WA_nm (fun M24 e_M24 => ?_)
  have h := h M24 e_M24
  have hT47 : isK M24 l0 11 54 := by rw [e_M24]; exact hT46
  refine x_aload_n (tk K_X11_init 50 rfl) rfl rfl ?_
  refine x_sipush (tk K_X11_init 51 rfl) sp_512 ?_
  have hx := h.1
  have hk := h.2.1
  have hn := h.2.2.1
  have h := h.2.2.2
  refine x_newa (k := 14) (tk K_X11_init 52 rfl) rfl ac_14 hx hk hn ?_
  refine WA_nm (fun M25 e_M25 => ?_)
  have h := h M25 e_M25
  have hT49 : isK M25 (nx M24) 14 (ix (nI 512)) := by rw [e_M25]; exact isK_nw
  have hT50 : isK M25 l0 11 54 := by rw [e_M25]; exact (isK_nw_old hT47)
  refine x_putR (tk K_X11_init 53 rfl) f_X11_46 rfl rfl (Or.inr ⟨rfl, rfl, rfl, l_X11_46⟩) hT50 ?_
  refine WA_nm (fun M26 e_M26 => ?_)
  have h := h M26 e_M26
  have hT51 : isK M26 l0 11 54 := by rw [e_M26]; exact hT50
  refine x_aload_n (tk K_X11_init 54 rfl) rfl rfl ?_
  refine x_ldc (tk K_X11_init 55 rfl) kc_X11_49 ?_
  have hx := h.1
  have hk := h.2.1
  have hn := h.2.2.1
  have h := h.2.2.2
  refine x_newa (k := 14) (tk K_X11_init 56 rfl) rfl ac_14 hx hk hn ?_
  refine WA_nm (fun M27 e_M27 => ?_)
  have h := h M27 e_M27
  have hT53 : isK M27 (nx M26) 14 (ix (nI 40000)) := by rw [e_M27]; exact isK_nw
  have hT54 : isK M27 l0 11 54 := by rw [e_M27]; exact (isK_nw_old hT51)
  refine x_putR (tk K_X11_init 57 rfl) f_X11_50 rfl rfl (Or.inr ⟨rfl, rfl, rfl, l_X11_50⟩) hT54 ?_
  refine WA_nm (fun M28 e_M28 => ?_)
  have h := h M28 e_M28
  have hT55 : isK M28 l0 11 54 := by rw [e_M28]; exact hT54
  refine x_aload_n (tk K_X11_init 58 rfl) rfl rfl ?_
  refine x_bipush (tk K_X11_init 59 rfl) bp_40 ?_
  have hx := h.1
  have hk := h.2.1
  have hn := h.2.2.1
  have h := h.2.2.2
  refine x_newa (k := 14) (tk K_X11_init 60 rfl) rfl ac_14 hx hk hn ?_
  refine WA_nm (fun M29 e_M29 => ?_)
  have h := h M29 e_M29
  have hT57 : isK M29 (nx M28) 14 (ix (nI 40)) := by rw [e_M29]; exact isK_nw
  have hT58 : isK M29 l0 11 54 := by rw [e_M29]; exact (isK_nw_old hT55)
  refine x_putR (tk K_X11_init 61 rfl) f_X11_53 rfl rfl (Or.inr ⟨rfl, rfl, rfl, l_X11_53⟩) hT58 ?_
  refine WA_nm (fun M30 e_M30 => ?_)
  have h := h M30 e_M30
  have hT59 : isK M30 l0 11 54 := by rw [e_M30]; exact hT58
  refine x_aload_n (tk K_X11_init 62 rfl) rfl rfl ?_
  refine x_iconst (tk K_X11_init 63 rfl) ic_4 ?_
  have hx := h.1
  have hk := h.2.1
  have hn := h.2.2.1
  have h := h.2.2.2
  refine x_newa (k := 14) (tk K_X11_init 64 rfl) rfl ac_14 hx hk hn ?_
  refine WA_nm (fun M31 e_M31 => ?_)
  have h := h M31 e_M31
  have hT61 : isK M31 (nx M30) 14 (ix (nI 4)) := by rw [e_M31]; exact isK_nw
  have hT62 : isK M31 l0 11 54 := by rw [e_M31]; exact (isK_nw_old hT59)
  refine x_putR (tk K_X11_init 65 rfl) f_X11_56 rfl rfl (Or.inr ⟨rfl, rfl, rfl, l_X11_56⟩) hT62 ?_
  refine WA_nm (fun M32 e_M32 => ?_)
  have h := h M32 e_M32
  have hT63 : isK M32 l0 11 54 := by rw [e_M32]; exact hT62
  refine x_aload_n (tk K_X11_init 66 rfl) rfl rfl ?_
  refine x_iconst (tk K_X11_init 67 rfl) ic_4 ?_
  have hx := h.1
  have hk := h.2.1
  have hn := h.2.2.1
  have h := h.2.2.2
  refine x_newa (k := 14) (tk K_X11_init 68 rfl) rfl ac_14 hx hk hn ?_
  refine WA_nm (fun M33 e_M33 => ?_)
  have h := h M33 e_M33
  have hT65 : isK M33 (nx M32) 14 (ix (nI 4)) := by rw [e_M33]; exact isK_nw
  have hT66 : isK M33 l0 11 54 := by rw [e_M33]; exact (isK_nw_old hT63)
  refine x_putR (tk K_X11_init 69 rfl) f_X11_59 rfl rfl (Or.inr ⟨rfl, rfl, rfl, l_X11_59⟩) hT66 ?_
  refine WA_nm (fun M34 e_M34 => ?_)
  have h := h M34 e_M34
  have hT67 : isK M34 l0 11 54 := by rw [e_M34]; exact hT66
  refine x_aload_n (tk K_X11_init 70 rfl) rfl rfl ?_
  refine x_bipush (tk K_X11_init 71 rfl) bp_8 ?_
  have hx := h.1
  have hk := h.2.1
  have hn := h.2.2.1
  have h := h.2.2.2
  refine x_newa (k := 14) (tk K_X11_init 72 rfl) rfl ac_14 hx hk hn ?_
  refine WA_nm (fun M35 e_M35 => ?_)
  have h := h M35 e_M35
  have hT69 : isK M35 (nx M34) 14 (ix (nI 8)) := by rw [e_M35]; exact isK_nw
  have hT70 : isK M35 l0 11 54 := by rw [e_M35]; exact (isK_nw_old hT67)
  refine x_putR (tk K_X11_init 73 rfl) f_X11_62 rfl rfl (Or.inr ⟨rfl, rfl, rfl, l_X11_62⟩) hT70 ?_
  refine WA_nm (fun M36 e_M36 => ?_)
  have h := h M36 e_M36
  have hT71 : isK M36 l0 11 54 := by rw [e_M36]; exact hT70
  refine x_aload_n (tk K_X11_init 74 rfl) rfl rfl ?_
  refine x_sipush (tk K_X11_init 75 rfl) sp_2560 ?_
  have hx := h.1
  have hk := h.2.1
  have hn := h.2.2.1
  have h := h.2.2.2
  refine x_newa (k := 14) (tk K_X11_init 76 rfl) rfl ac_14 hx hk hn ?_
  refine WA_nm (fun M37 e_M37 => ?_)
  have h := h M37 e_M37
  have hT73 : isK M37 (nx M36) 14 (ix (nI 2560)) := by rw [e_M37]; exact isK_nw
  have hT74 : isK M37 l0 11 54 := by rw [e_M37]; exact (isK_nw_old hT71)
  refine x_putR (tk K_X11_init 77 rfl) f_X11_65 rfl rfl (Or.inr ⟨rfl, rfl, rfl, l_X11_65⟩) hT74 ?_
  refine WA_nm (fun M38 e_M38 => ?_)
  have h := h M38 e_M38
  have hT75 : isK M38 l0 11 54 := by rw [e_M38]; exact hT74
  refine x_aload_n (tk K_X11_init 78 rfl) rfl rfl ?_
  refine x_sipush (tk K_X11_init 79 rfl) sp_2560 ?_
  have hx := h.1
  have hk := h.2.1
  have hn := h.2.2.1
  have h := h.2.2.2
  refine x_newa (k := 15) (tk K_X11_init 80 rfl) rfl ac_15 hx hk hn ?_
  refine WA_nm (fun M39 e_M39 => ?_)
  have h := h M39 e_M39
  have hT77 : isK M39 (nx M38) 15 (ix (nI 2560)) := by rw [e_M39]; exact isK_nw
  have hT78 : isK M39 l0 11 54 := by rw [e_M39]; exact (isK_nw_old hT75)
  refine x_putR (tk K_X11_init 81 rfl) f_X11_68 rfl rfl (Or.inr ⟨rfl, rfl, rfl, l_X11_68⟩) hT78 ?_
  refine WA_nm (fun M40 e_M40 => ?_)
  have h := h M40 e_M40
  have hT79 : isK M40 l0 11 54 := by rw [e_M40]; exact hT78
  refine x_aload_n (tk K_X11_init 82 rfl) rfl rfl ?_
  refine x_sipush (tk K_X11_init 83 rfl) sp_8000 ?_
  have hx := h.1
  have hk := h.2.1
  have hn := h.2.2.1
  have h := h.2.2.2
  refine x_newa (k := 14) (tk K_X11_init 84 rfl) rfl ac_14 hx hk hn ?_
  refine WA_nm (fun M41 e_M41 => ?_)
  have h := h M41 e_M41
  have hT81 : isK M41 (nx M40) 14 (ix (nI 8000)) := by rw [e_M41]; exact isK_nw
  have hT82 : isK M41 l0 11 54 := by rw [e_M41]; exact (isK_nw_old hT79)
  refine x_putR (tk K_X11_init 85 rfl) f_X11_72 rfl rfl (Or.inr ⟨rfl, rfl, rfl, l_X11_72⟩) hT82 ?_
  refine WA_nm (fun M42 e_M42 => ?_)
  have h := h M42 e_M42
  have hT83 : isK M42 l0 11 54 := by rw [e_M42]; exact hT82
  refine x_aload_n (tk K_X11_init 86 rfl) rfl rfl ?_
  refine x_bipush (tk K_X11_init 87 rfl) bp_8 ?_
  have hx := h.1
  have hk := h.2.1
  have hn := h.2.2.1
  have h := h.2.2.2
  refine x_newa (k := 14) (tk K_X11_init 88 rfl) rfl ac_14 hx hk hn ?_
  refine WA_nm (fun M43 e_M43 => ?_)
  have h := h M43 e_M43
  have hT85 : isK M43 (nx M42) 14 (ix (nI 8)) := by rw [e_M43]; exact isK_nw
  have hT86 : isK M43 l0 11 54 := by rw [e_M43]; exact (isK_nw_old hT83)
  refine x_putR (tk K_X11_init 89 rfl) f_X11_75 rfl rfl (Or.inr ⟨rfl, rfl, rfl, l_X11_75⟩) hT86 ?_
  refine WA_nm (fun M44 e_M44 => ?_)
  have h := h M44 e_M44
  have hT87 : isK M44 l0 11 54 := by rw [e_M44]; exact hT86
  refine x_aload_n (tk K_X11_init 90 rfl) rfl rfl ?_
  refine x_bipush (tk K_X11_init 91 rfl) bp_8 ?_
  have hx := h.1
  have hk := h.2.1
  have hn := h.2.2.1
  have h := h.2.2.2
  refine x_newa (k := 14) (tk K_X11_init 92 rfl) rfl ac_14 hx hk hn ?_
  refine WA_nm (fun M45 e_M45 => ?_)
  have h := h M45 e_M45
  have hT89 : isK M45 (nx M44) 14 (ix (nI 8)) := by rw [e_M45]; exact isK_nw
  have hT90 : isK M45 l0 11 54 := by rw [e_M45]; exact (isK_nw_old hT87)
  refine x_putR (tk K_X11_init 93 rfl) f_X11_78 rfl rfl (Or.inr ⟨rfl, rfl, rfl, l_X11_78⟩) hT90 ?_
  refine WA_nm (fun M46 e_M46 => ?_)
  have h := h M46 e_M46
  have hT91 : isK M46 l0 11 54 := by rw [e_M46]; exact hT90
  refine x_aload_n (tk K_X11_init 94 rfl) rfl rfl ?_
  refine x_bipush (tk K_X11_init 95 rfl) bp_96 ?_
  have hx := h.1
  have hk := h.2.1
  have hn := h.2.2.1
  have h := h.2.2.2
  refine x_newa (k := 14) (tk K_X11_init 96 rfl) rfl ac_14 hx hk hn ?_
  refine WA_nm (fun M47 e_M47 => ?_)
  have h := h M47 e_M47
  have hT93 : isK M47 (nx M46) 14 (ix (nI 96)) := by rw [e_M47]; exact isK_nw
  have hT94 : isK M47 l0 11 54 := by rw [e_M47]; exact (isK_nw_old hT91)
  refine x_putR (tk K_X11_init 97 rfl) f_X11_81 rfl rfl (Or.inr ⟨rfl, rfl, rfl, l_X11_81⟩) hT94 ?_
  refine WA_nm (fun M48 e_M48 => ?_)
  have h := h M48 e_M48
  have hT95 : isK M48 l0 11 54 := by rw [e_M48]; exact hT94
  refine x_aload_n (tk K_X11_init 98 rfl) rfl rfl ?_
  refine x_bipush (tk K_X11_init 99 rfl) bp_96 ?_
  have hx := h.1
  have hk := h.2.1
  have hn := h.2.2.1
  have h := h.2.2.2
  refine x_newa (k := 14) (tk K_X11_init 100 rfl) rfl ac_14 hx hk hn ?_
  refine WA_nm (fun M49 e_M49 => ?_)
  have h := h M49 e_M49
  have hT97 : isK M49 (nx M48) 14 (ix (nI 96)) := by rw [e_M49]; exact isK_nw
  have hT98 : isK M49 l0 11 54 := by rw [e_M49]; exact (isK_nw_old hT95)
  refine x_putR (tk K_X11_init 101 rfl) f_X11_84 rfl rfl (Or.inr ⟨rfl, rfl, rfl, l_X11_84⟩) hT98 ?_
  refine WA_nm (fun M50 e_M50 => ?_)
  have h := h M50 e_M50
  have hT99 : isK M50 l0 11 54 := by rw [e_M50]; exact hT98
  refine x_aload_n (tk K_X11_init 102 rfl) rfl rfl ?_
  refine x_bipush (tk K_X11_init 103 rfl) bp_8 ?_
  have hx := h.1
  have hk := h.2.1
  have hn := h.2.2.1
  have h := h.2.2.2
  refine x_newa (k := 14) (tk K_X11_init 104 rfl) rfl ac_14 hx hk hn ?_
  refine WA_nm (fun M51 e_M51 => ?_)
  have h := h M51 e_M51
  have hT101 : isK M51 (nx M50) 14 (ix (nI 8)) := by rw [e_M51]; exact isK_nw
  have hT102 : isK M51 l0 11 54 := by rw [e_M51]; exact (isK_nw_old hT99)
  refine x_putR (tk K_X11_init 105 rfl) f_X11_87 rfl rfl (Or.inr ⟨rfl, rfl, rfl, l_X11_87⟩) hT102 ?_
  refine WA_nm (fun M52 e_M52 => ?_)
  have h := h M52 e_M52
  have hT103 : isK M52 l0 11 54 := by rw [e_M52]; exact hT102
  refine x_aload_n (tk K_X11_init 106 rfl) rfl rfl ?_
  refine x_iconst (tk K_X11_init 107 rfl) ic_2 ?_
  have hx := h.1
  have hk := h.2.1
  have hn := h.2.2.1
  have h := h.2.2.2
  refine x_newa (k := 14) (tk K_X11_init 108 rfl) rfl ac_14 hx hk hn ?_
  refine WA_nm (fun M53 e_M53 => ?_)
  have h := h M53 e_M53
  have hT105 : isK M53 (nx M52) 14 (ix (nI 2)) := by rw [e_M53]; exact isK_nw
  have hT106 : isK M53 l0 11 54 := by rw [e_M53]; exact (isK_nw_old hT103)
  refine x_putR (tk K_X11_init 109 rfl) f_X11_90 rfl rfl (Or.inr ⟨rfl, rfl, rfl, l_X11_90⟩) hT106 ?_
  refine WA_nm (fun M54 e_M54 => ?_)
  have h := h M54 e_M54
  have hT107 : isK M54 l0 11 54 := by rw [e_M54]; exact hT106
  refine x_aload_n (tk K_X11_init 110 rfl) rfl rfl ?_
  refine x_iconst (tk K_X11_init 111 rfl) ic_2 ?_
  have hx := h.1
  have hk := h.2.1
  have hn := h.2.2.1
  have h := h.2.2.2
  refine x_newa (k := 14) (tk K_X11_init 112 rfl) rfl ac_14 hx hk hn ?_
  refine WA_nm (fun M55 e_M55 => ?_)
  have h := h M55 e_M55
  have hT109 : isK M55 (nx M54) 14 (ix (nI 2)) := by rw [e_M55]; exact isK_nw
  have hT110 : isK M55 l0 11 54 := by rw [e_M55]; exact (isK_nw_old hT107)
  refine x_putR (tk K_X11_init 113 rfl) f_X11_93 rfl rfl (Or.inr ⟨rfl, rfl, rfl, l_X11_93⟩) hT110 ?_
  refine WA_nm (fun M56 e_M56 => ?_)
  have h := h M56 e_M56
  have hT111 : isK M56 l0 11 54 := by rw [e_M56]; exact hT110
  exact x_return (tk K_X11_init 114 rfl) rfl h

theorem e_X11_init {X : Cx} {d kc ns : Nat} {M : Mem} {Q : Option AV → Mem → Prop} {a0 : Nat} (h : WA X d kc ns m_X11_init 0 [some (vR a0)] [] M Q) : Cl X d kc ns m_X11_init [vR a0] M Q := Cl.intro (k := 0) (by decide) rfl rfl h

-- TwoPencilsModel.thrown()I
theorem b_X11_thrown_0 {X : Cx} {d kc ns : Nat} {M : Mem} {Q : Option AV → Mem → Prop} (hS : RfS M)
    (h : Q (some (vI (mI M 75 0))) M) :
    WA X d kc ns m_X11_thrown 0 [some (vR 75)] [] M Q := by
  refine x_aload_n (tk K_X11_thrown 0 rfl) rfl rfl ?_
  refine x_getI (tk K_X11_thrown 1 rfl) f_X11_96 rfl (RfS.o hS) ?_
  exact x_ireturn (tk K_X11_thrown 2 rfl) rfl rfl h

theorem e_X11_thrown {X : Cx} {d kc ns : Nat} {M : Mem} {Q : Option AV → Mem → Prop} (h : WA X d kc ns m_X11_thrown 0 [some (vR 75)] [] M Q) : Cl X d kc ns m_X11_thrown [vR 75] M Q := Cl.intro (k := 0) (by decide) rfl rfl h

-- TwoPencilsModel.byteOf(IIIIII)I
theorem b_X11_byteOf_0 {X : Cx} {d kc ns : Nat} {M : Mem} {Q : Option AV → Mem → Prop} {l0 : Int32} {l1 : Int32} {l2 : Int32} {l3 : Int32} {l4 : Int32} {l5 : Int32}
    (h : (((nI 4) ≤ l5 → (((nI 8) ≤ l5 → (((nI 12) ≤ l5 → (((nI 16) ≤ l5 → WA X d kc ns m_X11_byteOf 45 [none, none, none, none, none, some (vI l5), none] [vI l4] M Q) ∧ (¬ (nI 16) ≤ l5 → WA X d kc ns m_X11_byteOf 45 [none, none, none, none, none, some (vI l5), none] [vI l3] M Q))) ∧ (¬ (nI 12) ≤ l5 → WA X d kc ns m_X11_byteOf 45 [none, none, none, none, none, some (vI l5), none] [vI l2] M Q))) ∧ (¬ (nI 8) ≤ l5 → WA X d kc ns m_X11_byteOf 45 [none, none, none, none, none, some (vI l5), none] [vI l1] M Q))) ∧ (¬ (nI 4) ≤ l5 → WA X d kc ns m_X11_byteOf 45 [none, none, none, none, none, some (vI l5), none] [vI l0] M Q))) :
    WA X d kc ns m_X11_byteOf 0 [some (vI l0), some (vI l1), some (vI l2), some (vI l3), some (vI l4), some (vI l5), none] [] M Q := by
  refine x_iload (tk K_X11_byteOf 0 rfl) rfl ?_
  refine x_iconst (tk K_X11_byteOf 1 rfl) ic_4 ?_
  refine x_icmp_ge (t := 10) (tk K_X11_byteOf 2 rfl) rfl (fun hc => ?_) (fun hc => ?_)
  · have h := h.1 hc
    refine x_iload (tk K_X11_byteOf 5 rfl) rfl ?_
    refine x_bipush (tk K_X11_byteOf 6 rfl) bp_8 ?_
    refine x_icmp_ge (t := 21) (tk K_X11_byteOf 7 rfl) rfl (fun hc => ?_) (fun hc => ?_)
    · have h := h.1 hc
      refine x_iload (tk K_X11_byteOf 10 rfl) rfl ?_
      refine x_bipush (tk K_X11_byteOf 11 rfl) bp_12 ?_
      refine x_icmp_ge (t := 32) (tk K_X11_byteOf 12 rfl) rfl (fun hc => ?_) (fun hc => ?_)
      · have h := h.1 hc
        refine x_iload (tk K_X11_byteOf 15 rfl) rfl ?_
        refine x_bipush (tk K_X11_byteOf 16 rfl) bp_16 ?_
        refine x_icmp_ge (t := 43) (tk K_X11_byteOf 17 rfl) rfl (fun hc => ?_) (fun hc => ?_)
        · have h := h.1 hc
          refine x_iload (tk K_X11_byteOf 20 rfl) rfl ?_
          refine x_msk [false, false, false, false, false, true, false] ?_
          exact h
        · have h := h.2 hc
          refine x_iload_n (tk K_X11_byteOf 18 rfl) rfl rfl ?_
          refine x_goto (t := 45) (tk K_X11_byteOf 19 rfl) rfl ?_
          refine x_msk [false, false, false, false, false, true, false] ?_
          exact h
      · have h := h.2 hc
        refine x_iload_n (tk K_X11_byteOf 13 rfl) rfl rfl ?_
        refine x_goto (t := 45) (tk K_X11_byteOf 14 rfl) rfl ?_
        refine x_msk [false, false, false, false, false, true, false] ?_
        exact h
    · have h := h.2 hc
      refine x_iload_n (tk K_X11_byteOf 8 rfl) rfl rfl ?_
      refine x_goto (t := 45) (tk K_X11_byteOf 9 rfl) rfl ?_
      refine x_msk [false, false, false, false, false, true, false] ?_
      exact h
  · have h := h.2 hc
    refine x_iload_n (tk K_X11_byteOf 3 rfl) rfl rfl ?_
    refine x_goto (t := 45) (tk K_X11_byteOf 4 rfl) rfl ?_
    refine x_msk [false, false, false, false, false, true, false] ?_
    exact h

theorem b_X11_byteOf_45 {X : Cx} {d kc ns : Nat} {M : Mem} {Q : Option AV → Mem → Prop} {l5 : Int32} {s0 : Int32}
    (h : Q (some (vI ((shr s0 ((nI 24) - ((nI 8) * (remI l5 (nI 4))))) &&& (nI 255)))) M) :
    WA X d kc ns m_X11_byteOf 45 [none, none, none, none, none, some (vI l5), none] [vI s0] M Q := by
  refine x_istore (L' := [none, none, none, none, none, some (vI _), some (vI _)]) (tk K_X11_byteOf 21 rfl) rfl (Nat.le_of_ble_eq_true rfl) rfl ?_
  refine x_iload (tk K_X11_byteOf 22 rfl) rfl ?_
  refine x_bipush (tk K_X11_byteOf 23 rfl) bp_24 ?_
  refine x_bipush (tk K_X11_byteOf 24 rfl) bp_8 ?_
  refine x_iload (tk K_X11_byteOf 25 rfl) rfl ?_
  refine x_iconst (tk K_X11_byteOf 26 rfl) ic_4 ?_
  refine x_iremR (tk K_X11_byteOf 27 rfl) (by decide) ?_
  refine x_imul (tk K_X11_byteOf 28 rfl) ?_
  refine x_isub (tk K_X11_byteOf 29 rfl) ?_
  refine x_ishr (tk K_X11_byteOf 30 rfl) ?_
  refine x_sipush (tk K_X11_byteOf 31 rfl) sp_255 ?_
  refine x_iand (tk K_X11_byteOf 32 rfl) ?_
  exact x_ireturn (tk K_X11_byteOf 33 rfl) rfl rfl h

theorem e_X11_byteOf {X : Cx} {d kc ns : Nat} {M : Mem} {Q : Option AV → Mem → Prop} {a0 : Int32} {a1 : Int32} {a2 : Int32} {a3 : Int32} {a4 : Int32} {a5 : Int32} (h : WA X d kc ns m_X11_byteOf 0 [some (vI a0), some (vI a1), some (vI a2), some (vI a3), some (vI a4), some (vI a5), none] [] M Q) : Cl X d kc ns m_X11_byteOf [vI a0, vI a1, vI a2, vI a3, vI a4, vI a5] M Q := Cl.intro (k := 1) (by decide) rfl rfl h

-- TwoPencilsModel.feed(IIIII)I
theorem b_X11_feed_0 {X : Cx} {d kc ns : Nat} {M : Mem} {Q : Option AV → Mem → Prop} {l1 : Int32} {l2 : Int32} {l3 : Int32} {l4 : Int32} {l5 : Int32} (hS : RfS M)
    (h : WA X d kc ns m_X11_feed 6 [some (vR 75), some (vI l1), some (vI l2), some (vI l3), some (vI l4), some (vI l5), some (vI (nI 0)), some (vI (nI 0)), none] [] M Q) :
    WA X d kc ns m_X11_feed 0 [some (vR 75), some (vI l1), some (vI l2), some (vI l3), some (vI l4), some (vI l5), none, none, none] [] M Q := by
  refine x_iconst (tk K_X11_feed 0 rfl) ic_0 ?_
  refine x_istore (L' := [some (vR _), some (vI _), some (vI _), some (vI _), some (vI _), some (vI _), some (vI _), none, none]) (tk K_X11_feed 1 rfl) rfl (Nat.le_of_ble_eq_true rfl) rfl ?_
  refine x_iconst (tk K_X11_feed 2 rfl) ic_0 ?_
  refine x_istore (L' := [some (vR _), some (vI _), some (vI _), some (vI _), some (vI _), some (vI _), some (vI _), some (vI _), none]) (tk K_X11_feed 3 rfl) rfl (Nat.le_of_ble_eq_true rfl) rfl ?_
  exact h

theorem b_X11_feed_6 {X : Cx} {d kc ns : Nat} {M : Mem} {Q : Option AV → Mem → Prop} {l1 : Int32} {l2 : Int32} {l3 : Int32} {l4 : Int32} {l5 : Int32} {l6 : Int32} {l7 : Int32} (hS : RfS M) (hd : 1 ≤ d)
    (h : (((nI 20) ≤ l7 → ((((mI M 75 2) + l6) ≤ (nI 300) → WA X d kc ns m_X11_feed 62 [some (vR 75), some (vI l1), some (vI l2), some (vI l3), some (vI l4), some (vI l5), none, some (vI (nI 0)), none] [] M Q) ∧ (¬ ((mI M 75 2) + l6) ≤ (nI 300) → Q (some (vI (-1))) M))) ∧ (¬ (nI 20) ≤ l7 → Cl X (d - 1) 0 0 m_X11_byteOf [vI l1, vI l2, vI l3, vI l4, vI l5, vI l7] M (fun r M1 => ∃ x1 : Int32, r = some (vI x1) ∧ Ext M M1 ∧ ((x1 = nI 0 → ∀ x2 : Int32, x2 = (l6 + (nI 0)) → WA X d kc ns m_X11_feed 6 [some (vR 75), some (vI l1), some (vI l2), some (vI l3), some (vI l4), some (vI l5), some (vI x2), some (vI (l7 + (nI 1))), none] [] M1 Q) ∧ (¬ x1 = nI 0 → ∀ x3 : Int32, x3 = (l6 + (nI 1)) → WA X d kc ns m_X11_feed 6 [some (vR 75), some (vI l1), some (vI l2), some (vI l3), some (vI l4), some (vI l5), some (vI x3), some (vI (l7 + (nI 1))), none] [] M1 Q)))))) :
    WA X d kc ns m_X11_feed 6 [some (vR 75), some (vI l1), some (vI l2), some (vI l3), some (vI l4), some (vI l5), some (vI l6), some (vI l7), none] [] M Q := by
  refine x_iload (tk K_X11_feed 4 rfl) rfl ?_
  refine x_bipush (tk K_X11_feed 5 rfl) bp_20 ?_
  refine x_icmp_ge (t := 44) (tk K_X11_feed 6 rfl) rfl (fun hc => ?_) (fun hc => ?_)
  · have h := h.1 hc
    refine x_aload_n (tk K_X11_feed 23 rfl) rfl rfl ?_
    refine x_getI (tk K_X11_feed 24 rfl) f_X11_104 rfl (RfS.o hS) ?_
    refine x_iload (tk K_X11_feed 25 rfl) rfl ?_
    refine x_iadd (tk K_X11_feed 26 rfl) ?_
    refine x_sipush (tk K_X11_feed 27 rfl) sp_300 ?_
    refine x_icmp_le (t := 59) (tk K_X11_feed 28 rfl) rfl (fun hc => ?_) (fun hc => ?_)
    · have h := h.1 hc
      refine x_iconst (tk K_X11_feed 31 rfl) ic_0 ?_
      refine x_istore (L' := [some (vR _), some (vI _), some (vI _), some (vI _), some (vI _), some (vI _), some (vI _), some (vI _), none]) (tk K_X11_feed 32 rfl) rfl (Nat.le_of_ble_eq_true rfl) rfl ?_
      refine x_msk [true, true, true, true, true, true, false, true, false] ?_
      exact h
    · have h := h.2 hc
      refine x_iconst (tk K_X11_feed 29 rfl) ic_m1 ?_
      exact x_ireturn (tk K_X11_feed 30 rfl) rfl rfl h
  · have h := h.2 hc
    refine x_iload (tk K_X11_feed 7 rfl) rfl ?_
    refine x_iload_n (tk K_X11_feed 8 rfl) rfl rfl ?_
    refine x_iload_n (tk K_X11_feed 9 rfl) rfl rfl ?_
    refine x_iload_n (tk K_X11_feed 10 rfl) rfl rfl ?_
    refine x_iload (tk K_X11_feed 11 rfl) rfl ?_
    refine x_iload (tk K_X11_feed 12 rfl) rfl ?_
    refine x_iload (tk K_X11_feed 13 rfl) rfl ?_
    refine x_callS0 (As := [vI _, vI _, vI _, vI _, vI _, vI _]) (S := [vI _]) (tk K_X11_feed 14 rfl) mk_X11_100 mo_X11_byteOf rfl rfl (Nat.le_of_ble_eq_true rfl) hd h (fun r M1 hq => ?_)
    obtain ⟨x1, rfl, hE, h⟩ := hq
    have hT0 := RfS.ext hS hE
    refine x_if_eq (t := 34) (tk K_X11_feed 15 rfl) rfl (fun hc => ?_) (fun hc => ?_)
    · have h := h.1 hc
      refine x_iconst (tk K_X11_feed 18 rfl) ic_0 ?_
      refine x_iadd (tk K_X11_feed 19 rfl) ?_
      have h := h _ rfl
      refine x_istore (L' := [some (vR _), some (vI _), some (vI _), some (vI _), some (vI _), some (vI _), some (vI _), some (vI _), none]) (tk K_X11_feed 20 rfl) rfl (Nat.le_of_ble_eq_true rfl) rfl ?_
      refine x_iincW (L' := [some (vR _), some (vI _), some (vI _), some (vI _), some (vI _), some (vI _), some (vI _), some (vI _), none]) (tk K_X11_feed 21 rfl) rfl ic_1 rfl (Nat.le_of_ble_eq_true rfl) rfl ?_
      refine x_goto (t := 6) (tk K_X11_feed 22 rfl) rfl ?_
      exact h
    · have h := h.2 hc
      refine x_iconst (tk K_X11_feed 16 rfl) ic_1 ?_
      refine x_goto (t := 35) (tk K_X11_feed 17 rfl) rfl ?_
      refine x_iadd (tk K_X11_feed 19 rfl) ?_
      have h := h _ rfl
      refine x_istore (L' := [some (vR _), some (vI _), some (vI _), some (vI _), some (vI _), some (vI _), some (vI _), some (vI _), none]) (tk K_X11_feed 20 rfl) rfl (Nat.le_of_ble_eq_true rfl) rfl ?_
      refine x_iincW (L' := [some (vR _), some (vI _), some (vI _), some (vI _), some (vI _), some (vI _), some (vI _), some (vI _), none]) (tk K_X11_feed 21 rfl) rfl ic_1 rfl (Nat.le_of_ble_eq_true rfl) rfl ?_
      refine x_goto (t := 6) (tk K_X11_feed 22 rfl) rfl ?_
      exact h

theorem b_X11_feed_62 {X : Cx} {d kc ns : Nat} {M : Mem} {Q : Option AV → Mem → Prop} {l1 : Int32} {l2 : Int32} {l3 : Int32} {l4 : Int32} {l5 : Int32} {l7 : Int32} (hS : RfS M) (hd : 1 ≤ d)
    (h : (((nI 20) ≤ l7 → Q (some (vI (mI M 75 2))) M) ∧ (¬ (nI 20) ≤ l7 → Cl X (d - 1) 0 0 m_X11_byteOf [vI l1, vI l2, vI l3, vI l4, vI l5, vI l7] M (fun r M1 => ∃ x1 : Int32, r = some (vI x1) ∧ Ext M M1 ∧ ((x1 = nI 0 → WA X d kc ns m_X11_feed 62 [some (vR 75), some (vI l1), some (vI l2), some (vI l3), some (vI l4), some (vI l5), none, some (vI (l7 + (nI 1))), none] [] M1 Q) ∧ (¬ x1 = nI 0 → vp_in (mI M1 75 2) 300 ∧ ∀ M2 : Mem, M2 = sI M1 76 (ix (mI M1 75 2)) x1 → ∀ M3 : Mem, M3 = sI M2 75 2 ((mI M2 75 2) + (nI 1)) → WA X d kc ns m_X11_feed 62 [some (vR 75), some (vI l1), some (vI l2), some (vI l3), some (vI l4), some (vI l5), none, some (vI (l7 + (nI 1))), none] [] M3 Q)))))) :
    WA X d kc ns m_X11_feed 62 [some (vR 75), some (vI l1), some (vI l2), some (vI l3), some (vI l4), some (vI l5), none, some (vI l7), none] [] M Q := by
  refine x_iload (tk K_X11_feed 33 rfl) rfl ?_
  refine x_bipush (tk K_X11_feed 34 rfl) bp_20 ?_
  refine x_icmp_ge (t := 115) (tk K_X11_feed 35 rfl) rfl (fun hc => ?_) (fun hc => ?_)
  · have h := h.1 hc
    refine x_aload_n (tk K_X11_feed 60 rfl) rfl rfl ?_
    refine x_getI (tk K_X11_feed 61 rfl) f_X11_104 rfl (RfS.o hS) ?_
    exact x_ireturn (tk K_X11_feed 62 rfl) rfl rfl h
  · have h := h.2 hc
    refine x_iload_n (tk K_X11_feed 36 rfl) rfl rfl ?_
    refine x_iload_n (tk K_X11_feed 37 rfl) rfl rfl ?_
    refine x_iload_n (tk K_X11_feed 38 rfl) rfl rfl ?_
    refine x_iload (tk K_X11_feed 39 rfl) rfl ?_
    refine x_iload (tk K_X11_feed 40 rfl) rfl ?_
    refine x_iload (tk K_X11_feed 41 rfl) rfl ?_
    refine x_callS0 (As := [vI _, vI _, vI _, vI _, vI _, vI _]) (S := []) (tk K_X11_feed 42 rfl) mk_X11_100 mo_X11_byteOf rfl rfl (Nat.le_of_ble_eq_true rfl) hd h (fun r M1 hq => ?_)
    obtain ⟨x1, rfl, hE, h⟩ := hq
    have hT0 := RfS.ext hS hE
    refine x_istore (L' := [some (vR _), some (vI _), some (vI _), some (vI _), some (vI _), some (vI _), none, some (vI _), some (vI _)]) (tk K_X11_feed 43 rfl) rfl (Nat.le_of_ble_eq_true rfl) rfl ?_
    refine x_iload (tk K_X11_feed 44 rfl) rfl ?_
    refine x_if_eq (t := 109) (tk K_X11_feed 45 rfl) rfl (fun hc => ?_) (fun hc => ?_)
    · have h := h.1 hc
      refine x_iincW (L' := [some (vR _), some (vI _), some (vI _), some (vI _), some (vI _), some (vI _), none, some (vI _), some (vI _)]) (tk K_X11_feed 58 rfl) rfl ic_1 rfl (Nat.le_of_ble_eq_true rfl) rfl ?_
      refine x_goto (t := 62) (tk K_X11_feed 59 rfl) rfl ?_
      refine x_msk [true, true, true, true, true, true, false, true, false] ?_
      exact h
    · have h := h.2 hc
      refine x_aload_n (tk K_X11_feed 46 rfl) rfl rfl ?_
      refine x_getRc (tk K_X11_feed 47 rfl) f_X11_7 rfl (RfS.o hT0) (RfS.r1 hT0) ?_
      refine x_aload_n (tk K_X11_feed 48 rfl) rfl rfl ?_
      refine x_getI (tk K_X11_feed 49 rfl) f_X11_104 rfl (RfS.o hT0) ?_
      refine x_iload (tk K_X11_feed 50 rfl) rfl ?_
      have hi := h.1
      have h := h.2
      have h := h _ rfl
      refine x_iast (tk K_X11_feed 51 rfl) (RfS.k1 hT0) hi ?_
      refine x_aload_n (tk K_X11_feed 52 rfl) rfl rfl ?_
      refine x_dup (tk K_X11_feed 53 rfl) rfl ?_
      refine x_getI (tk K_X11_feed 54 rfl) f_X11_104 rfl (RfS.o hT0) ?_
      refine x_iconst (tk K_X11_feed 55 rfl) ic_1 ?_
      refine x_iadd (tk K_X11_feed 56 rfl) ?_
      have h := h _ rfl
      refine x_putI (tk K_X11_feed 57 rfl) f_X11_104 rfl (Or.inl rfl) (RfS.o hT0) ?_
      refine x_iincW (L' := [some (vR _), some (vI _), some (vI _), some (vI _), some (vI _), some (vI _), none, some (vI _), some (vI _)]) (tk K_X11_feed 58 rfl) rfl ic_1 rfl (Nat.le_of_ble_eq_true rfl) rfl ?_
      refine x_goto (t := 62) (tk K_X11_feed 59 rfl) rfl ?_
      refine x_msk [true, true, true, true, true, true, false, true, false] ?_
      exact h

theorem e_X11_feed {X : Cx} {d kc ns : Nat} {M : Mem} {Q : Option AV → Mem → Prop} {a1 : Int32} {a2 : Int32} {a3 : Int32} {a4 : Int32} {a5 : Int32} (h : WA X d kc ns m_X11_feed 0 [some (vR 75), some (vI a1), some (vI a2), some (vI a3), some (vI a4), some (vI a5), none, none, none] [] M Q) : Cl X d kc ns m_X11_feed [vR 75, vI a1, vI a2, vI a3, vI a4, vI a5] M Q := Cl.intro (k := 3) (by decide) rfl rfl h

-- TwoPencilsModel.end(I)Z
theorem b_X11_end_0 {X : Cx} {d kc ns : Nat} {M : Mem} {Q : Option AV → Mem → Prop} {l1 : Int32} (hS : RfS M)
    (h : ((l1 < nI 0 → Q (some (vI (nI 0))) M) ∧ (¬ l1 < nI 0 → ((l1 ≤ (mI M 75 2) → ∀ M1 : Mem, M1 = sI M 75 2 l1 → Q (some (vI (nI 1))) M1) ∧ (¬ l1 ≤ (mI M 75 2) → Q (some (vI (nI 0))) M))))) :
    WA X d kc ns m_X11_end 0 [some (vR 75), some (vI l1)] [] M Q := by
  refine x_iload_n (tk K_X11_end 0 rfl) rfl rfl ?_
  refine x_if_lt (t := 12) (tk K_X11_end 1 rfl) rfl (fun hc => ?_) (fun hc => ?_)
  · have h := h.1 hc
    refine x_iconst (tk K_X11_end 6 rfl) ic_0 ?_
    exact x_ireturn (tk K_X11_end 7 rfl) rfl (fitZ (Or.inl rfl)).1 h
  · have h := h.2 hc
    refine x_iload_n (tk K_X11_end 2 rfl) rfl rfl ?_
    refine x_aload_n (tk K_X11_end 3 rfl) rfl rfl ?_
    refine x_getI (tk K_X11_end 4 rfl) f_X11_104 rfl (RfS.o hS) ?_
    refine x_icmp_le (t := 14) (tk K_X11_end 5 rfl) rfl (fun hc => ?_) (fun hc => ?_)
    · have h := h.1 hc
      refine x_aload_n (tk K_X11_end 8 rfl) rfl rfl ?_
      refine x_iload_n (tk K_X11_end 9 rfl) rfl rfl ?_
      have h := h _ rfl
      refine x_putI (tk K_X11_end 10 rfl) f_X11_104 rfl (Or.inl rfl) (RfS.o hS) ?_
      refine x_iconst (tk K_X11_end 11 rfl) ic_1 ?_
      exact x_ireturn (tk K_X11_end 12 rfl) rfl (fitZ (Or.inr rfl)).1 h
    · have h := h.2 hc
      refine x_iconst (tk K_X11_end 6 rfl) ic_0 ?_
      exact x_ireturn (tk K_X11_end 7 rfl) rfl (fitZ (Or.inl rfl)).1 h

theorem e_X11_end {X : Cx} {d kc ns : Nat} {M : Mem} {Q : Option AV → Mem → Prop} {a1 : Int32} (h : WA X d kc ns m_X11_end 0 [some (vR 75), some (vI a1)] [] M Q) : Cl X d kc ns m_X11_end [vR 75, vI a1] M Q := Cl.intro (k := 0) (by decide) rfl rfl h

-- TwoPencilsModel.look()I
theorem b_X11_look_0 {X : Cx} {d kc ns : Nat} {M : Mem} {Q : Option AV → Mem → Prop} (hS : RfS M)
    (h : (((mI M 75 2) ≤ (mI M 75 3) → WA X d kc ns m_X11_look 38 [some (vR 75)] [] M Q) ∧ (¬ (mI M 75 2) ≤ (mI M 75 3) → vp_in (mI M 75 3) 300 ∧ ((¬ (mI M 76 (ix (mI M 75 3))) = (nI 32) → WA X d kc ns m_X11_look 38 [some (vR 75)] [] M Q) ∧ ((mI M 76 (ix (mI M 75 3))) = (nI 32) → ∀ M1 : Mem, M1 = sI M 75 3 ((mI M 75 3) + (nI 1)) → WA X d kc ns m_X11_look 0 [some (vR 75)] [] M1 Q))))) :
    WA X d kc ns m_X11_look 0 [some (vR 75)] [] M Q := by
  refine x_aload_n (tk K_X11_look 0 rfl) rfl rfl ?_
  refine x_getI (tk K_X11_look 1 rfl) f_X11_107 rfl (RfS.o hS) ?_
  refine x_aload_n (tk K_X11_look 2 rfl) rfl rfl ?_
  refine x_getI (tk K_X11_look 3 rfl) f_X11_104 rfl (RfS.o hS) ?_
  refine x_icmp_ge (t := 38) (tk K_X11_look 4 rfl) rfl (fun hc => ?_) (fun hc => ?_)
  · have h := h.1 hc
    exact h
  · have h := h.2 hc
    refine x_aload_n (tk K_X11_look 5 rfl) rfl rfl ?_
    refine x_getRc (tk K_X11_look 6 rfl) f_X11_7 rfl (RfS.o hS) (RfS.r1 hS) ?_
    refine x_aload_n (tk K_X11_look 7 rfl) rfl rfl ?_
    refine x_getI (tk K_X11_look 8 rfl) f_X11_107 rfl (RfS.o hS) ?_
    have hi := h.1
    have h := h.2
    refine x_iald (tk K_X11_look 9 rfl) (RfS.k1 hS) hi ?_
    refine x_bipush (tk K_X11_look 10 rfl) bp_32 ?_
    refine x_icmp_ne (t := 38) (tk K_X11_look 11 rfl) rfl (fun hc => ?_) (fun hc => ?_)
    · have h := h.1 hc
      exact h
    · have h := h.2 hc
      refine x_aload_n (tk K_X11_look 12 rfl) rfl rfl ?_
      refine x_dup (tk K_X11_look 13 rfl) rfl ?_
      refine x_getI (tk K_X11_look 14 rfl) f_X11_107 rfl (RfS.o hS) ?_
      refine x_iconst (tk K_X11_look 15 rfl) ic_1 ?_
      refine x_iadd (tk K_X11_look 16 rfl) ?_
      have h := h _ rfl
      refine x_putI (tk K_X11_look 17 rfl) f_X11_107 rfl (Or.inl rfl) (RfS.o hS) ?_
      refine x_goto (t := 0) (tk K_X11_look 18 rfl) rfl ?_
      exact h

theorem b_X11_look_38 {X : Cx} {d kc ns : Nat} {M : Mem} {Q : Option AV → Mem → Prop} (hS : RfS M)
    (h : (((mI M 75 2) ≤ (mI M 75 3) → Q (some (vI (-1))) M) ∧ (¬ (mI M 75 2) ≤ (mI M 75 3) → vp_in (mI M 75 3) 300 ∧ Q (some (vI (mI M 76 (ix (mI M 75 3))))) M))) :
    WA X d kc ns m_X11_look 38 [some (vR 75)] [] M Q := by
  refine x_aload_n (tk K_X11_look 19 rfl) rfl rfl ?_
  refine x_getI (tk K_X11_look 20 rfl) f_X11_107 rfl (RfS.o hS) ?_
  refine x_aload_n (tk K_X11_look 21 rfl) rfl rfl ?_
  refine x_getI (tk K_X11_look 22 rfl) f_X11_104 rfl (RfS.o hS) ?_
  refine x_icmp_ge (t := 61) (tk K_X11_look 23 rfl) rfl (fun hc => ?_) (fun hc => ?_)
  · have h := h.1 hc
    refine x_iconst (tk K_X11_look 30 rfl) ic_m1 ?_
    exact x_ireturn (tk K_X11_look 31 rfl) rfl rfl h
  · have h := h.2 hc
    refine x_aload_n (tk K_X11_look 24 rfl) rfl rfl ?_
    refine x_getRc (tk K_X11_look 25 rfl) f_X11_7 rfl (RfS.o hS) (RfS.r1 hS) ?_
    refine x_aload_n (tk K_X11_look 26 rfl) rfl rfl ?_
    refine x_getI (tk K_X11_look 27 rfl) f_X11_107 rfl (RfS.o hS) ?_
    have hi := h.1
    have h := h.2
    refine x_iald (tk K_X11_look 28 rfl) (RfS.k1 hS) hi ?_
    refine x_goto (t := 62) (tk K_X11_look 29 rfl) rfl ?_
    exact x_ireturn (tk K_X11_look 31 rfl) rfl rfl h

theorem e_X11_look {X : Cx} {d kc ns : Nat} {M : Mem} {Q : Option AV → Mem → Prop} (h : WA X d kc ns m_X11_look 0 [some (vR 75)] [] M Q) : Cl X d kc ns m_X11_look [vR 75] M Q := Cl.intro (k := 0) (by decide) rfl rfl h

-- TwoPencilsModel.bad(I)V
theorem b_X11_bad_0 {X : Cx} {d kc ns : Nat} {M : Mem} {Q : Option AV → Mem → Prop} {l1 : Int32} (hS : RfS M)
    (h : ((¬ (mI M 75 4) = (-1) → WA X d kc ns m_X11_bad 17 [some (vR 75), none] [vI (mI M 75 4), vR 75] M Q) ∧ ((mI M 75 4) = (-1) → WA X d kc ns m_X11_bad 17 [some (vR 75), none] [vI l1, vR 75] M Q))) :
    WA X d kc ns m_X11_bad 0 [some (vR 75), some (vI l1)] [] M Q := by
  refine x_aload_n (tk K_X11_bad 0 rfl) rfl rfl ?_
  refine x_aload_n (tk K_X11_bad 1 rfl) rfl rfl ?_
  refine x_getI (tk K_X11_bad 2 rfl) f_X11_110 rfl (RfS.o hS) ?_
  refine x_iconst (tk K_X11_bad 3 rfl) ic_m1 ?_
  refine x_icmp_ne (t := 13) (tk K_X11_bad 4 rfl) rfl (fun hc => ?_) (fun hc => ?_)
  · have h := h.1 hc
    refine x_aload_n (tk K_X11_bad 7 rfl) rfl rfl ?_
    refine x_getI (tk K_X11_bad 8 rfl) f_X11_110 rfl (RfS.o hS) ?_
    refine x_msk [true, false] ?_
    exact h
  · have h := h.2 hc
    refine x_iload_n (tk K_X11_bad 5 rfl) rfl rfl ?_
    refine x_goto (t := 17) (tk K_X11_bad 6 rfl) rfl ?_
    refine x_msk [true, false] ?_
    exact h

theorem b_X11_bad_17 {X : Cx} {d kc ns : Nat} {M : Mem} {Q : Option AV → Mem → Prop} {s1 : Int32} (hS : RfS M)
    (h : ∀ M1 : Mem, M1 = sI M 75 4 s1 → Q none M1) :
    WA X d kc ns m_X11_bad 17 [some (vR 75), none] [vI s1, vR 75] M Q := by
  have h := h _ rfl
  refine x_putI (tk K_X11_bad 9 rfl) f_X11_110 rfl (Or.inl rfl) (RfS.o hS) ?_
  exact x_return (tk K_X11_bad 10 rfl) rfl h

theorem e_X11_bad {X : Cx} {d kc ns : Nat} {M : Mem} {Q : Option AV → Mem → Prop} {a1 : Int32} (h : WA X d kc ns m_X11_bad 0 [some (vR 75), some (vI a1)] [] M Q) : Cl X d kc ns m_X11_bad [vR 75, vI a1] M Q := Cl.intro (k := 0) (by decide) rfl rfl h

-- TwoPencilsModel.isDigit(I)Z
theorem b_X11_isDigit_0 {X : Cx} {d kc ns : Nat} {M : Mem} {Q : Option AV → Mem → Prop} {l0 : Int32}
    (h : ((l0 < (nI 48) → Q (some (vI (nI 0))) M) ∧ (¬ l0 < (nI 48) → (((nI 57) < l0 → Q (some (vI (nI 0))) M) ∧ (¬ (nI 57) < l0 → Q (some (vI (nI 1))) M))))) :
    WA X d kc ns m_X11_isDigit 0 [some (vI l0)] [] M Q := by
  refine x_iload_n (tk K_X11_isDigit 0 rfl) rfl rfl ?_
  refine x_bipush (tk K_X11_isDigit 1 rfl) bp_48 ?_
  refine x_icmp_lt (t := 16) (tk K_X11_isDigit 2 rfl) rfl (fun hc => ?_) (fun hc => ?_)
  · have h := h.1 hc
    refine x_iconst (tk K_X11_isDigit 8 rfl) ic_0 ?_
    exact x_ireturn (tk K_X11_isDigit 9 rfl) rfl (fitZ (Or.inl rfl)).1 h
  · have h := h.2 hc
    refine x_iload_n (tk K_X11_isDigit 3 rfl) rfl rfl ?_
    refine x_bipush (tk K_X11_isDigit 4 rfl) bp_57 ?_
    refine x_icmp_gt (t := 16) (tk K_X11_isDigit 5 rfl) rfl (fun hc => ?_) (fun hc => ?_)
    · have h := h.1 hc
      refine x_iconst (tk K_X11_isDigit 8 rfl) ic_0 ?_
      exact x_ireturn (tk K_X11_isDigit 9 rfl) rfl (fitZ (Or.inl rfl)).1 h
    · have h := h.2 hc
      refine x_iconst (tk K_X11_isDigit 6 rfl) ic_1 ?_
      refine x_goto (t := 17) (tk K_X11_isDigit 7 rfl) rfl ?_
      exact x_ireturn (tk K_X11_isDigit 9 rfl) rfl (fitZ (Or.inr rfl)).1 h

theorem e_X11_isDigit {X : Cx} {d kc ns : Nat} {M : Mem} {Q : Option AV → Mem → Prop} {a0 : Int32} (h : WA X d kc ns m_X11_isDigit 0 [some (vI a0)] [] M Q) : Cl X d kc ns m_X11_isDigit [vI a0] M Q := Cl.intro (k := 0) (by decide) rfl rfl h

-- TwoPencilsModel.number(III)I
theorem b_X11_number_0 {X : Cx} {d kc ns : Nat} {M : Mem} {Q : Option AV → Mem → Prop} {l1 : Int32} {l2 : Int32} {l3 : Int32} (hS : RfS M) (hd : 1 ≤ d)
    (h : Cl X (d - 1) 0 0 m_X11_look [vR 75] M (fun r M1 => ∃ x1 : Int32, r = some (vI x1) ∧ Ext M M1 ∧ ((¬ (mI M1 75 4) = (-1) → WA X d kc ns m_X11_number 22 [some (vR 75), some (vI l1), none, none, none, none, none] [] M1 Q) ∧ ((mI M1 75 4) = (-1) → Cl X (d - 1) 0 0 m_X11_isDigit [vI x1] M1 (fun r M2 => ∃ x2 : Int32, r = some (vI x2) ∧ Ext M1 M2 ∧ ((¬ x2 = nI 0 → WA X d kc ns m_X11_number 38 [some (vR 75), some (vI l1), some (vI l2), some (vI l3), none, some (vI (nI 0)), some (vI (nI 0))] [] M2 Q) ∧ (x2 = nI 0 → WA X d kc ns m_X11_number 22 [some (vR 75), some (vI l1), none, none, none, none, none] [] M2 Q))))))) :
    WA X d kc ns m_X11_number 0 [some (vR 75), some (vI l1), some (vI l2), some (vI l3), none, none, none] [] M Q := by
  refine x_aload_n (tk K_X11_number 0 rfl) rfl rfl ?_
  refine x_callV0 (As := []) (S := []) (tk K_X11_number 1 rfl) mk_X11_113 mo_X11_look (RfS.o hS) rfl rfl (Nat.le_of_ble_eq_true rfl) hd h (fun r M1 hq => ?_)
  obtain ⟨x1, rfl, hE, h⟩ := hq
  have hT0 := RfS.ext hS hE
  refine x_istore (L' := [some (vR _), some (vI _), some (vI _), some (vI _), some (vI _), none, none]) (tk K_X11_number 2 rfl) rfl (Nat.le_of_ble_eq_true rfl) rfl ?_
  refine x_aload_n (tk K_X11_number 3 rfl) rfl rfl ?_
  refine x_getI (tk K_X11_number 4 rfl) f_X11_110 rfl (RfS.o hT0) ?_
  refine x_iconst (tk K_X11_number 5 rfl) ic_m1 ?_
  refine x_icmp_ne (t := 22) (tk K_X11_number 6 rfl) rfl (fun hc => ?_) (fun hc => ?_)
  · have h := h.1 hc
    refine x_msk [true, true, false, false, false, false, false] ?_
    exact h
  · have h := h.2 hc
    refine x_iload (tk K_X11_number 7 rfl) rfl ?_
    refine x_callS0 (As := [vI _]) (S := []) (tk K_X11_number 8 rfl) mk_X11_117 mo_X11_isDigit rfl rfl (Nat.le_of_ble_eq_true rfl) hd h (fun r M2 hq => ?_)
    obtain ⟨x2, rfl, hE, h⟩ := hq
    have hT1 := RfS.ext hT0 hE
    refine x_if_ne (t := 32) (tk K_X11_number 9 rfl) rfl (fun hc => ?_) (fun hc => ?_)
    · have h := h.1 hc
      refine x_iconst (tk K_X11_number 16 rfl) ic_0 ?_
      refine x_istore (L' := [some (vR _), some (vI _), some (vI _), some (vI _), some (vI _), some (vI _), none]) (tk K_X11_number 17 rfl) rfl (Nat.le_of_ble_eq_true rfl) rfl ?_
      refine x_iconst (tk K_X11_number 18 rfl) ic_0 ?_
      refine x_istore (L' := [some (vR _), some (vI _), some (vI _), some (vI _), some (vI _), some (vI _), some (vI _)]) (tk K_X11_number 19 rfl) rfl (Nat.le_of_ble_eq_true rfl) rfl ?_
      refine x_msk [true, true, true, true, false, true, true] ?_
      exact h
    · have h := h.2 hc
      refine x_msk [true, true, false, false, false, false, false] ?_
      exact h

theorem b_X11_number_22 {X : Cx} {d kc ns : Nat} {M : Mem} {Q : Option AV → Mem → Prop} {l1 : Int32} (hS : RfS M) (hd : 1 ≤ d)
    (h : Cl X (d - 1) 0 0 m_X11_bad [vR 75, vI (mI M 75 3)] M (fun r M1 => r = none ∧ Ext M M1 ∧ Q (some (vI l1)) M1)) :
    WA X d kc ns m_X11_number 22 [some (vR 75), some (vI l1), none, none, none, none, none] [] M Q := by
  refine x_aload_n (tk K_X11_number 10 rfl) rfl rfl ?_
  refine x_aload_n (tk K_X11_number 11 rfl) rfl rfl ?_
  refine x_getI (tk K_X11_number 12 rfl) f_X11_107 rfl (RfS.o hS) ?_
  refine x_callV0 (As := [vI _]) (S := []) (tk K_X11_number 13 rfl) mk_X11_121 mo_X11_bad (RfS.o hS) rfl rfl (Nat.le_of_ble_eq_true rfl) hd h (fun r M1 hq => ?_)
  obtain ⟨rfl, hE, h⟩ := hq
  have hT0 := RfS.ext hS hE
  refine x_iload_n (tk K_X11_number 14 rfl) rfl rfl ?_
  exact x_ireturn (tk K_X11_number 15 rfl) rfl rfl h

theorem b_X11_number_38 {X : Cx} {d kc ns : Nat} {M : Mem} {Q : Option AV → Mem → Prop} {l1 : Int32} {l2 : Int32} {l3 : Int32} {l5 : Int32} {l6 : Int32} (hS : RfS M) (hd : 1 ≤ d)
    (h : (((mI M 75 2) ≤ (mI M 75 3) → WA X d kc ns m_X11_number 116 [some (vR 75), some (vI l1), some (vI l2), some (vI l3), none, some (vI l5), none] [] M Q) ∧ (¬ (mI M 75 2) ≤ (mI M 75 3) → vp_in (mI M 75 3) 300 ∧ Cl X (d - 1) 0 0 m_X11_isDigit [vI (mI M 76 (ix (mI M 75 3)))] M (fun r M1 => ∃ x1 : Int32, r = some (vI x1) ∧ Ext M M1 ∧ ((x1 = nI 0 → WA X d kc ns m_X11_number 116 [some (vR 75), some (vI l1), some (vI l2), some (vI l3), none, some (vI l5), none] [] M1 Q) ∧ (¬ x1 = nI 0 → ((¬ l6 = (nI 3) → vp_in (mI M1 75 3) 300 ∧ ∀ x2 : Int32, x2 = ((((nI 10) * l5) + (mI M1 76 (ix (mI M1 75 3)))) - (nI 48)) → ∀ M2 : Mem, M2 = sI M1 75 3 ((mI M1 75 3) + (nI 1)) → WA X d kc ns m_X11_number 38 [some (vR 75), some (vI l1), some (vI l2), some (vI l3), none, some (vI x2), some (vI (l6 + (nI 1)))] [] M2 Q) ∧ (l6 = (nI 3) → Cl X (d - 1) 0 0 m_X11_bad [vR 75, vI (mI M1 75 3)] M1 (fun r M3 => r = none ∧ Ext M1 M3 ∧ Q (some (vI l1)) M3))))))))) :
    WA X d kc ns m_X11_number 38 [some (vR 75), some (vI l1), some (vI l2), some (vI l3), none, some (vI l5), some (vI l6)] [] M Q := by
  refine x_aload_n (tk K_X11_number 20 rfl) rfl rfl ?_
  refine x_getI (tk K_X11_number 21 rfl) f_X11_107 rfl (RfS.o hS) ?_
  refine x_aload_n (tk K_X11_number 22 rfl) rfl rfl ?_
  refine x_getI (tk K_X11_number 23 rfl) f_X11_104 rfl (RfS.o hS) ?_
  refine x_icmp_ge (t := 116) (tk K_X11_number 24 rfl) rfl (fun hc => ?_) (fun hc => ?_)
  · have h := h.1 hc
    refine x_msk [true, true, true, true, false, true, false] ?_
    exact h
  · have h := h.2 hc
    refine x_aload_n (tk K_X11_number 25 rfl) rfl rfl ?_
    refine x_getRc (tk K_X11_number 26 rfl) f_X11_7 rfl (RfS.o hS) (RfS.r1 hS) ?_
    refine x_aload_n (tk K_X11_number 27 rfl) rfl rfl ?_
    refine x_getI (tk K_X11_number 28 rfl) f_X11_107 rfl (RfS.o hS) ?_
    have hi := h.1
    have h := h.2
    refine x_iald (tk K_X11_number 29 rfl) (RfS.k1 hS) hi ?_
    refine x_callS0 (As := [vI _]) (S := []) (tk K_X11_number 30 rfl) mk_X11_117 mo_X11_isDigit rfl rfl (Nat.le_of_ble_eq_true rfl) hd h (fun r M1 hq => ?_)
    obtain ⟨x1, rfl, hE, h⟩ := hq
    have hT0 := RfS.ext hS hE
    have hT1 := hE.1 _ _ _ (RfS.k1 hS)
    refine x_if_eq (t := 116) (tk K_X11_number 31 rfl) rfl (fun hc => ?_) (fun hc => ?_)
    · have h := h.1 hc
      refine x_msk [true, true, true, true, false, true, false] ?_
      exact h
    · have h := h.2 hc
      refine x_iload (tk K_X11_number 32 rfl) rfl ?_
      refine x_iconst (tk K_X11_number 33 rfl) ic_3 ?_
      refine x_icmp_ne (t := 80) (tk K_X11_number 34 rfl) rfl (fun hc => ?_) (fun hc => ?_)
      · have h := h.1 hc
        refine x_bipush (tk K_X11_number 41 rfl) bp_10 ?_
        refine x_iload (tk K_X11_number 42 rfl) rfl ?_
        refine x_imul (tk K_X11_number 43 rfl) ?_
        refine x_aload_n (tk K_X11_number 44 rfl) rfl rfl ?_
        refine x_getRc (tk K_X11_number 45 rfl) f_X11_7 rfl (RfS.o hT0) (RfS.r1 hT0) ?_
        refine x_aload_n (tk K_X11_number 46 rfl) rfl rfl ?_
        refine x_getI (tk K_X11_number 47 rfl) f_X11_107 rfl (RfS.o hT0) ?_
        have hi := h.1
        have h := h.2
        refine x_iald (tk K_X11_number 48 rfl) (RfS.k1 hT0) hi ?_
        refine x_iadd (tk K_X11_number 49 rfl) ?_
        refine x_bipush (tk K_X11_number 50 rfl) bp_48 ?_
        refine x_isub (tk K_X11_number 51 rfl) ?_
        have h := h _ rfl
        refine x_istore (L' := [some (vR _), some (vI _), some (vI _), some (vI _), none, some (vI _), some (vI _)]) (tk K_X11_number 52 rfl) rfl (Nat.le_of_ble_eq_true rfl) rfl ?_
        refine x_iincW (L' := [some (vR _), some (vI _), some (vI _), some (vI _), none, some (vI _), some (vI _)]) (tk K_X11_number 53 rfl) rfl ic_1 rfl (Nat.le_of_ble_eq_true rfl) rfl ?_
        refine x_aload_n (tk K_X11_number 54 rfl) rfl rfl ?_
        refine x_dup (tk K_X11_number 55 rfl) rfl ?_
        refine x_getI (tk K_X11_number 56 rfl) f_X11_107 rfl (RfS.o hT0) ?_
        refine x_iconst (tk K_X11_number 57 rfl) ic_1 ?_
        refine x_iadd (tk K_X11_number 58 rfl) ?_
        have h := h _ rfl
        refine x_putI (tk K_X11_number 59 rfl) f_X11_107 rfl (Or.inl rfl) (RfS.o hT0) ?_
        refine x_goto (t := 38) (tk K_X11_number 60 rfl) rfl ?_
        exact h
      · have h := h.2 hc
        refine x_aload_n (tk K_X11_number 35 rfl) rfl rfl ?_
        refine x_aload_n (tk K_X11_number 36 rfl) rfl rfl ?_
        refine x_getI (tk K_X11_number 37 rfl) f_X11_107 rfl (RfS.o hT0) ?_
        refine x_callV0 (As := [vI _]) (S := []) (tk K_X11_number 38 rfl) mk_X11_121 mo_X11_bad (RfS.o hT0) rfl rfl (Nat.le_of_ble_eq_true rfl) hd h (fun r M3 hq => ?_)
        obtain ⟨rfl, hE, h⟩ := hq
        have hT2 := RfS.ext hT0 hE
        have hT3 := hE.1 _ _ _ hT1
        refine x_iload_n (tk K_X11_number 39 rfl) rfl rfl ?_
        exact x_ireturn (tk K_X11_number 40 rfl) rfl rfl h

theorem b_X11_number_116 {X : Cx} {d kc ns : Nat} {M : Mem} {Q : Option AV → Mem → Prop} {l1 : Int32} {l2 : Int32} {l3 : Int32} {l5 : Int32} (hS : RfS M) (hd : 1 ≤ d)
    (h : Cl X (d - 1) 0 0 m_X11_in [vI l5, vI l1, vI l2] M (fun r M1 => ∃ x1 : Int32, r = some (vI x1) ∧ Ext M M1 ∧ ((x1 = nI 0 → WA X d kc ns m_X11_number 132 [some (vR 75), some (vI l1), none, none, none, none, none] [] M1 Q) ∧ (¬ x1 = nI 0 → ((¬ l5 = l3 → Q (some (vI l5)) M1) ∧ (l5 = l3 → WA X d kc ns m_X11_number 132 [some (vR 75), some (vI l1), none, none, none, none, none] [] M1 Q)))))) :
    WA X d kc ns m_X11_number 116 [some (vR 75), some (vI l1), some (vI l2), some (vI l3), none, some (vI l5), none] [] M Q := by
  refine x_iload (tk K_X11_number 61 rfl) rfl ?_
  refine x_iload_n (tk K_X11_number 62 rfl) rfl rfl ?_
  refine x_iload_n (tk K_X11_number 63 rfl) rfl rfl ?_
  refine x_callS0 (As := [vI _, vI _, vI _]) (S := []) (tk K_X11_number 64 rfl) mk_X11_125 mo_X11_in rfl rfl (Nat.le_of_ble_eq_true rfl) hd h (fun r M1 hq => ?_)
  obtain ⟨x1, rfl, hE, h⟩ := hq
  have hT0 := RfS.ext hS hE
  refine x_if_eq (t := 132) (tk K_X11_number 65 rfl) rfl (fun hc => ?_) (fun hc => ?_)
  · have h := h.1 hc
    refine x_msk [true, true, false, false, false, false, false] ?_
    exact h
  · have h := h.2 hc
    refine x_iload (tk K_X11_number 66 rfl) rfl ?_
    refine x_iload_n (tk K_X11_number 67 rfl) rfl rfl ?_
    refine x_icmp_ne (t := 144) (tk K_X11_number 68 rfl) rfl (fun hc => ?_) (fun hc => ?_)
    · have h := h.1 hc
      refine x_iload (tk K_X11_number 77 rfl) rfl ?_
      exact x_ireturn (tk K_X11_number 78 rfl) rfl rfl h
    · have h := h.2 hc
      refine x_msk [true, true, false, false, false, false, false] ?_
      exact h

theorem b_X11_number_132 {X : Cx} {d kc ns : Nat} {M : Mem} {Q : Option AV → Mem → Prop} {l1 : Int32} (hS : RfS M) (hd : 1 ≤ d)
    (h : Cl X (d - 1) 0 0 m_X11_bad [vR 75, vI ((mI M 75 3) - (nI 1))] M (fun r M1 => r = none ∧ Ext M M1 ∧ Q (some (vI l1)) M1)) :
    WA X d kc ns m_X11_number 132 [some (vR 75), some (vI l1), none, none, none, none, none] [] M Q := by
  refine x_aload_n (tk K_X11_number 69 rfl) rfl rfl ?_
  refine x_aload_n (tk K_X11_number 70 rfl) rfl rfl ?_
  refine x_getI (tk K_X11_number 71 rfl) f_X11_107 rfl (RfS.o hS) ?_
  refine x_iconst (tk K_X11_number 72 rfl) ic_1 ?_
  refine x_isub (tk K_X11_number 73 rfl) ?_
  refine x_callV0 (As := [vI _]) (S := []) (tk K_X11_number 74 rfl) mk_X11_121 mo_X11_bad (RfS.o hS) rfl rfl (Nat.le_of_ble_eq_true rfl) hd h (fun r M1 hq => ?_)
  obtain ⟨rfl, hE, h⟩ := hq
  have hT0 := RfS.ext hS hE
  refine x_iload_n (tk K_X11_number 75 rfl) rfl rfl ?_
  exact x_ireturn (tk K_X11_number 76 rfl) rfl rfl h

theorem e_X11_number {X : Cx} {d kc ns : Nat} {M : Mem} {Q : Option AV → Mem → Prop} {a1 : Int32} {a2 : Int32} {a3 : Int32} (h : WA X d kc ns m_X11_number 0 [some (vR 75), some (vI a1), some (vI a2), some (vI a3), none, none, none] [] M Q) : Cl X d kc ns m_X11_number [vR 75, vI a1, vI a2, vI a3] M Q := Cl.intro (k := 3) (by decide) rfl rfl h

-- TwoPencilsModel.sign(I)V
theorem b_X11_sign_0 {X : Cx} {d kc ns : Nat} {M : Mem} {Q : Option AV → Mem → Prop} {l1 : Int32} (hS : RfS M) (hd : 1 ≤ d)
    (h : ((¬ (mI M 75 4) = (-1) → WA X d kc ns m_X11_sign 24 [some (vR 75), none] [] M Q) ∧ ((mI M 75 4) = (-1) → Cl X (d - 1) 0 0 m_X11_look [vR 75] M (fun r M1 => ∃ x1 : Int32, r = some (vI x1) ∧ Ext M M1 ∧ ((x1 = l1 → WA X d kc ns m_X11_sign 24 [some (vR 75), none] [] M1 Q) ∧ (¬ x1 = l1 → Cl X (d - 1) 0 0 m_X11_bad [vR 75, vI (mI M1 75 3)] M1 (fun r M2 => r = none ∧ Ext M1 M2 ∧ WA X d kc ns m_X11_sign 24 [some (vR 75), none] [] M2 Q))))))) :
    WA X d kc ns m_X11_sign 0 [some (vR 75), some (vI l1)] [] M Q := by
  refine x_aload_n (tk K_X11_sign 0 rfl) rfl rfl ?_
  refine x_getI (tk K_X11_sign 1 rfl) f_X11_110 rfl (RfS.o hS) ?_
  refine x_iconst (tk K_X11_sign 2 rfl) ic_m1 ?_
  refine x_icmp_ne (t := 24) (tk K_X11_sign 3 rfl) rfl (fun hc => ?_) (fun hc => ?_)
  · have h := h.1 hc
    refine x_msk [true, false] ?_
    exact h
  · have h := h.2 hc
    refine x_aload_n (tk K_X11_sign 4 rfl) rfl rfl ?_
    refine x_callV0 (As := []) (S := []) (tk K_X11_sign 5 rfl) mk_X11_113 mo_X11_look (RfS.o hS) rfl rfl (Nat.le_of_ble_eq_true rfl) hd h (fun r M1 hq => ?_)
    obtain ⟨x1, rfl, hE, h⟩ := hq
    have hT0 := RfS.ext hS hE
    refine x_iload_n (tk K_X11_sign 6 rfl) rfl rfl ?_
    refine x_icmp_eq (t := 24) (tk K_X11_sign 7 rfl) rfl (fun hc => ?_) (fun hc => ?_)
    · have h := h.1 hc
      refine x_msk [true, false] ?_
      exact h
    · have h := h.2 hc
      refine x_aload_n (tk K_X11_sign 8 rfl) rfl rfl ?_
      refine x_aload_n (tk K_X11_sign 9 rfl) rfl rfl ?_
      refine x_getI (tk K_X11_sign 10 rfl) f_X11_107 rfl (RfS.o hT0) ?_
      refine x_callV0 (As := [vI _]) (S := []) (tk K_X11_sign 11 rfl) mk_X11_121 mo_X11_bad (RfS.o hT0) rfl rfl (Nat.le_of_ble_eq_true rfl) hd h (fun r M2 hq => ?_)
      obtain ⟨rfl, hE, h⟩ := hq
      have hT1 := RfS.ext hT0 hE
      refine x_msk [true, false] ?_
      exact h

theorem b_X11_sign_24 {X : Cx} {d kc ns : Nat} {M : Mem} {Q : Option AV → Mem → Prop} (hS : RfS M)
    (h : ∀ M1 : Mem, M1 = sI M 75 3 ((mI M 75 3) + (nI 1)) → Q none M1) :
    WA X d kc ns m_X11_sign 24 [some (vR 75), none] [] M Q := by
  refine x_aload_n (tk K_X11_sign 12 rfl) rfl rfl ?_
  refine x_dup (tk K_X11_sign 13 rfl) rfl ?_
  refine x_getI (tk K_X11_sign 14 rfl) f_X11_107 rfl (RfS.o hS) ?_
  refine x_iconst (tk K_X11_sign 15 rfl) ic_1 ?_
  refine x_iadd (tk K_X11_sign 16 rfl) ?_
  have h := h _ rfl
  refine x_putI (tk K_X11_sign 17 rfl) f_X11_107 rfl (Or.inl rfl) (RfS.o hS) ?_
  exact x_return (tk K_X11_sign 18 rfl) rfl h

theorem e_X11_sign {X : Cx} {d kc ns : Nat} {M : Mem} {Q : Option AV → Mem → Prop} {a1 : Int32} (h : WA X d kc ns m_X11_sign 0 [some (vR 75), some (vI a1)] [] M Q) : Cl X d kc ns m_X11_sign [vR 75, vI a1] M Q := Cl.intro (k := 0) (by decide) rfl rfl h

-- TwoPencilsModel.voteAt(III)I
theorem b_X11_voteAt_0 {X : Cx} {d kc ns : Nat} {M : Mem} {Q : Option AV → Mem → Prop} {l0 : Int32} {l1 : Int32} {l2 : Int32}
    (h : Q (some (vI (((nI 3) * (((nI 9) * l0) + l1)) + l2))) M) :
    WA X d kc ns m_X11_voteAt 0 [some (vI l0), some (vI l1), some (vI l2)] [] M Q := by
  refine x_iconst (tk K_X11_voteAt 0 rfl) ic_3 ?_
  refine x_bipush (tk K_X11_voteAt 1 rfl) bp_9 ?_
  refine x_iload_n (tk K_X11_voteAt 2 rfl) rfl rfl ?_
  refine x_imul (tk K_X11_voteAt 3 rfl) ?_
  refine x_iload_n (tk K_X11_voteAt 4 rfl) rfl rfl ?_
  refine x_iadd (tk K_X11_voteAt 5 rfl) ?_
  refine x_imul (tk K_X11_voteAt 6 rfl) ?_
  refine x_iload_n (tk K_X11_voteAt 7 rfl) rfl rfl ?_
  refine x_iadd (tk K_X11_voteAt 8 rfl) ?_
  exact x_ireturn (tk K_X11_voteAt 9 rfl) rfl rfl h

theorem e_X11_voteAt {X : Cx} {d kc ns : Nat} {M : Mem} {Q : Option AV → Mem → Prop} {a0 : Int32} {a1 : Int32} {a2 : Int32} (h : WA X d kc ns m_X11_voteAt 0 [some (vI a0), some (vI a1), some (vI a2)] [] M Q) : Cl X d kc ns m_X11_voteAt [vI a0, vI a1, vI a2] M Q := Cl.intro (k := 0) (by decide) rfl rfl h

-- TwoPencilsModel.readLand(I)I
theorem b_X11_readLand_0 {X : Cx} {d kc ns : Nat} {M : Mem} {Q : Option AV → Mem → Prop} {l1 : Int32} (hS : RfS M)
    (h : ∀ M1 : Mem, M1 = sI M 75 3 (nI 0) → ∀ M2 : Mem, M2 = sI M1 75 4 (-1) → WA X d kc ns m_X11_readLand 12 [some (vR 75), some (vI l1), some (vI (nI 0)), none] [] M2 Q) :
    WA X d kc ns m_X11_readLand 0 [some (vR 75), some (vI l1), none, none] [] M Q := by
  refine x_aload_n (tk K_X11_readLand 0 rfl) rfl rfl ?_
  refine x_iconst (tk K_X11_readLand 1 rfl) ic_0 ?_
  have h := h _ rfl
  refine x_putI (tk K_X11_readLand 2 rfl) f_X11_107 rfl (Or.inl rfl) (RfS.o hS) ?_
  refine x_aload_n (tk K_X11_readLand 3 rfl) rfl rfl ?_
  refine x_iconst (tk K_X11_readLand 4 rfl) ic_m1 ?_
  have h := h _ rfl
  refine x_putI (tk K_X11_readLand 5 rfl) f_X11_110 rfl (Or.inl rfl) (RfS.o hS) ?_
  refine x_iconst (tk K_X11_readLand 6 rfl) ic_0 ?_
  refine x_istore_n (L' := [some (vR _), some (vI _), some (vI _), none]) (tk K_X11_readLand 7 rfl) rfl rfl (Nat.le_of_ble_eq_true rfl) rfl ?_
  exact h

theorem b_X11_readLand_12 {X : Cx} {d kc ns : Nat} {M : Mem} {Q : Option AV → Mem → Prop} {l1 : Int32} {l2 : Int32} (hS : RfS M) (hd : 1 ≤ d)
    (h : (((nI 9) ≤ l2 → vp_in l1 7 ∧ ∀ M1 : Mem, M1 = sI M 79 (ix l1) (nI 0) → vp_in l1 7 ∧ ∀ M2 : Mem, M2 = sI M1 80 (ix l1) (nI 999) → Cl X (d - 1) 0 0 m_X11_number [vR 75, vI (nI 2), vI (nI 9), vI (-1)] M2 (fun r M3 => ∃ x1 : Int32, r = some (vI x1) ∧ Ext M2 M3 ∧ vp_in l1 7 ∧ ∀ M4 : Mem, M4 = sI M3 77 (ix l1) x1 → Cl X (d - 1) 0 0 m_X11_sign [vR 75, vI (nI 47)] M4 (fun r M5 => r = none ∧ Ext M4 M5 ∧ vp_in l1 7 ∧ Cl X (d - 1) 0 0 m_X11_number [vR 75, vI (nI 1), vI (minI (nI 4) (mI M5 77 (ix l1))), vI (-1)] M5 (fun r M6 => ∃ x2 : Int32, r = some (vI x2) ∧ Ext M5 M6 ∧ vp_in l1 7 ∧ ∀ M7 : Mem, M7 = sI M6 78 (ix l1) x2 → WA X d kc ns m_X11_readLand 131 [some (vR 75), some (vI l1), none, none] [] M7 Q)))) ∧ (¬ (nI 9) ≤ l2 → WA X d kc ns m_X11_readLand 20 [some (vR 75), some (vI l1), some (vI l2), some (vI (nI 0))] [] M Q))) :
    WA X d kc ns m_X11_readLand 12 [some (vR 75), some (vI l1), some (vI l2), none] [] M Q := by
  refine x_iload_n (tk K_X11_readLand 8 rfl) rfl rfl ?_
  refine x_bipush (tk K_X11_readLand 9 rfl) bp_9 ?_
  refine x_icmp_ge (t := 73) (tk K_X11_readLand 10 rfl) rfl (fun hc => ?_) (fun hc => ?_)
  · have h := h.1 hc
    refine x_aload_n (tk K_X11_readLand 46 rfl) rfl rfl ?_
    refine x_getRc (tk K_X11_readLand 47 rfl) f_X11_19 rfl (RfS.o hS) (RfS.r7 hS) ?_
    refine x_iload_n (tk K_X11_readLand 48 rfl) rfl rfl ?_
    refine x_iconst (tk K_X11_readLand 49 rfl) ic_0 ?_
    have hi := h.1
    have h := h.2
    have h := h _ rfl
    refine x_iast (tk K_X11_readLand 50 rfl) (RfS.k7 hS) hi ?_
    refine x_aload_n (tk K_X11_readLand 51 rfl) rfl rfl ?_
    refine x_getRc (tk K_X11_readLand 52 rfl) f_X11_22 rfl (RfS.o hS) (RfS.r8 hS) ?_
    refine x_iload_n (tk K_X11_readLand 53 rfl) rfl rfl ?_
    refine x_sipush (tk K_X11_readLand 54 rfl) sp_999 ?_
    have hi := h.1
    have h := h.2
    have h := h _ rfl
    refine x_iast (tk K_X11_readLand 55 rfl) (RfS.k8 hS) hi ?_
    refine x_aload_n (tk K_X11_readLand 56 rfl) rfl rfl ?_
    refine x_getRc (tk K_X11_readLand 57 rfl) f_X11_13 rfl (RfS.o hS) (RfS.r5 hS) ?_
    refine x_iload_n (tk K_X11_readLand 58 rfl) rfl rfl ?_
    refine x_aload_n (tk K_X11_readLand 59 rfl) rfl rfl ?_
    refine x_iconst (tk K_X11_readLand 60 rfl) ic_2 ?_
    refine x_bipush (tk K_X11_readLand 61 rfl) bp_9 ?_
    refine x_iconst (tk K_X11_readLand 62 rfl) ic_m1 ?_
    refine x_callV0 (As := [vI _, vI _, vI _]) (S := [vI _, vR _]) (tk K_X11_readLand 63 rfl) mk_X11_133 mo_X11_number (RfS.o hS) rfl rfl (Nat.le_of_ble_eq_true rfl) hd h (fun r M3 hq => ?_)
    obtain ⟨x1, rfl, hE, h⟩ := hq
    have hT0 := RfS.ext hS hE
    have hT1 := hE.1 _ _ _ (RfS.k7 hS)
    have hT2 := hE.1 _ _ _ (RfS.k8 hS)
    have hT3 := hE.1 _ _ _ (RfS.k5 hS)
    have hi := h.1
    have h := h.2
    have h := h _ rfl
    refine x_iast (tk K_X11_readLand 64 rfl) hT3 hi ?_
    refine x_aload_n (tk K_X11_readLand 65 rfl) rfl rfl ?_
    refine x_bipush (tk K_X11_readLand 66 rfl) bp_47 ?_
    refine x_callV0 (As := [vI _]) (S := []) (tk K_X11_readLand 67 rfl) mk_X11_136 mo_X11_sign (RfS.o hT0) rfl rfl (Nat.le_of_ble_eq_true rfl) hd h (fun r M5 hq => ?_)
    obtain ⟨rfl, hE, h⟩ := hq
    have hT4 := RfS.ext hT0 hE
    have hT5 := hE.1 _ _ _ hT1
    have hT6 := hE.1 _ _ _ hT2
    have hT7 := hE.1 _ _ _ hT3
    refine x_aload_n (tk K_X11_readLand 68 rfl) rfl rfl ?_
    refine x_getRc (tk K_X11_readLand 69 rfl) f_X11_16 rfl (RfS.o hT4) (RfS.r6 hT4) ?_
    refine x_iload_n (tk K_X11_readLand 70 rfl) rfl rfl ?_
    refine x_aload_n (tk K_X11_readLand 71 rfl) rfl rfl ?_
    refine x_iconst (tk K_X11_readLand 72 rfl) ic_1 ?_
    refine x_iconst (tk K_X11_readLand 73 rfl) ic_4 ?_
    refine x_aload_n (tk K_X11_readLand 74 rfl) rfl rfl ?_
    refine x_getRc (tk K_X11_readLand 75 rfl) f_X11_13 rfl (RfS.o hT4) (RfS.r5 hT4) ?_
    refine x_iload_n (tk K_X11_readLand 76 rfl) rfl rfl ?_
    have hi := h.1
    have h := h.2
    refine x_iald (tk K_X11_readLand 77 rfl) (RfS.k5 hT4) hi ?_
    refine x_mmin (tk K_X11_readLand 78 rfl) mx_X11_139 mx_min_st mx_min_co hd (Nat.le_of_ble_eq_true rfl) ?_
    refine x_iconst (tk K_X11_readLand 79 rfl) ic_m1 ?_
    refine x_callV0 (As := [vI _, vI _, vI _]) (S := [vI _, vR _]) (tk K_X11_readLand 80 rfl) mk_X11_133 mo_X11_number (RfS.o hT4) rfl rfl (Nat.le_of_ble_eq_true rfl) hd h (fun r M6 hq => ?_)
    obtain ⟨x2, rfl, hE, h⟩ := hq
    have hT8 := RfS.ext hT4 hE
    have hT9 := hE.1 _ _ _ hT5
    have hT10 := hE.1 _ _ _ hT6
    have hT11 := hE.1 _ _ _ (RfS.k5 hT4)
    have hT12 := hE.1 _ _ _ (RfS.k6 hT4)
    have hi := h.1
    have h := h.2
    have h := h _ rfl
    refine x_iast (tk K_X11_readLand 81 rfl) hT12 hi ?_
    refine x_msk [true, true, false, false] ?_
    exact h
  · have h := h.2 hc
    refine x_iconst (tk K_X11_readLand 11 rfl) ic_0 ?_
    refine x_istore_n (L' := [some (vR _), some (vI _), some (vI _), some (vI _)]) (tk K_X11_readLand 12 rfl) rfl rfl (Nat.le_of_ble_eq_true rfl) rfl ?_
    exact h

theorem b_X11_readLand_20 {X : Cx} {d kc ns : Nat} {M : Mem} {Q : Option AV → Mem → Prop} {l1 : Int32} {l2 : Int32} {l3 : Int32} (hS : RfS M) (hd : 1 ≤ d)
    (h : (((nI 3) ≤ l3 → vp_in (((nI 9) * l1) + l2) 63 ∧ ∀ M1 : Mem, M1 = sI M 82 (ix (((nI 9) * l1) + l2)) (nI 0) → vp_in (((nI 9) * l1) + l2) 63 ∧ ∀ M2 : Mem, M2 = sI M1 83 (ix (((nI 9) * l1) + l2)) (nI 0) → WA X d kc ns m_X11_readLand 12 [some (vR 75), some (vI l1), some (vI (l2 + (nI 1))), none] [] M2 Q) ∧ (¬ (nI 3) ≤ l3 → Cl X (d - 1) 0 0 m_X11_voteAt [vI l1, vI l2, vI l3] M (fun r M3 => ∃ x1 : Int32, r = some (vI x1) ∧ Ext M M3 ∧ vp_in x1 189 ∧ ∀ M4 : Mem, M4 = sI M3 81 (ix x1) (nI 0) → WA X d kc ns m_X11_readLand 20 [some (vR 75), some (vI l1), some (vI l2), some (vI (l3 + (nI 1)))] [] M4 Q)))) :
    WA X d kc ns m_X11_readLand 20 [some (vR 75), some (vI l1), some (vI l2), some (vI l3)] [] M Q := by
  refine x_iload_n (tk K_X11_readLand 13 rfl) rfl rfl ?_
  refine x_iconst (tk K_X11_readLand 14 rfl) ic_3 ?_
  refine x_icmp_ge (t := 43) (tk K_X11_readLand 15 rfl) rfl (fun hc => ?_) (fun hc => ?_)
  · have h := h.1 hc
    refine x_aload_n (tk K_X11_readLand 26 rfl) rfl rfl ?_
    refine x_getRc (tk K_X11_readLand 27 rfl) f_X11_28 rfl (RfS.o hS) (RfS.r10 hS) ?_
    refine x_bipush (tk K_X11_readLand 28 rfl) bp_9 ?_
    refine x_iload_n (tk K_X11_readLand 29 rfl) rfl rfl ?_
    refine x_imul (tk K_X11_readLand 30 rfl) ?_
    refine x_iload_n (tk K_X11_readLand 31 rfl) rfl rfl ?_
    refine x_iadd (tk K_X11_readLand 32 rfl) ?_
    refine x_iconst (tk K_X11_readLand 33 rfl) ic_0 ?_
    have hi := h.1
    have h := h.2
    have h := h _ rfl
    refine x_iast (tk K_X11_readLand 34 rfl) (RfS.k10 hS) hi ?_
    refine x_aload_n (tk K_X11_readLand 35 rfl) rfl rfl ?_
    refine x_getRc (tk K_X11_readLand 36 rfl) f_X11_31 rfl (RfS.o hS) (RfS.r11 hS) ?_
    refine x_bipush (tk K_X11_readLand 37 rfl) bp_9 ?_
    refine x_iload_n (tk K_X11_readLand 38 rfl) rfl rfl ?_
    refine x_imul (tk K_X11_readLand 39 rfl) ?_
    refine x_iload_n (tk K_X11_readLand 40 rfl) rfl rfl ?_
    refine x_iadd (tk K_X11_readLand 41 rfl) ?_
    refine x_iconst (tk K_X11_readLand 42 rfl) ic_0 ?_
    have hi := h.1
    have h := h.2
    have h := h _ rfl
    refine x_iast (tk K_X11_readLand 43 rfl) (RfS.k11 hS) hi ?_
    refine x_iincW (L' := [some (vR _), some (vI _), some (vI _), some (vI _)]) (tk K_X11_readLand 44 rfl) rfl ic_1 rfl (Nat.le_of_ble_eq_true rfl) rfl ?_
    refine x_goto (t := 12) (tk K_X11_readLand 45 rfl) rfl ?_
    refine x_msk [true, true, true, false] ?_
    exact h
  · have h := h.2 hc
    refine x_aload_n (tk K_X11_readLand 16 rfl) rfl rfl ?_
    refine x_getRc (tk K_X11_readLand 17 rfl) f_X11_25 rfl (RfS.o hS) (RfS.r9 hS) ?_
    refine x_iload_n (tk K_X11_readLand 18 rfl) rfl rfl ?_
    refine x_iload_n (tk K_X11_readLand 19 rfl) rfl rfl ?_
    refine x_iload_n (tk K_X11_readLand 20 rfl) rfl rfl ?_
    refine x_callS0 (As := [vI _, vI _, vI _]) (S := [vR _]) (tk K_X11_readLand 21 rfl) mk_X11_129 mo_X11_voteAt rfl rfl (Nat.le_of_ble_eq_true rfl) hd h (fun r M3 hq => ?_)
    obtain ⟨x1, rfl, hE, h⟩ := hq
    have hT0 := RfS.ext hS hE
    have hT1 := hE.1 _ _ _ (RfS.k9 hS)
    refine x_iconst (tk K_X11_readLand 22 rfl) ic_0 ?_
    have hi := h.1
    have h := h.2
    have h := h _ rfl
    refine x_iast (tk K_X11_readLand 23 rfl) hT1 hi ?_
    refine x_iincW (L' := [some (vR _), some (vI _), some (vI _), some (vI _)]) (tk K_X11_readLand 24 rfl) rfl ic_1 rfl (Nat.le_of_ble_eq_true rfl) rfl ?_
    refine x_goto (t := 20) (tk K_X11_readLand 25 rfl) rfl ?_
    exact h

theorem b_X11_readLand_131 {X : Cx} {d kc ns : Nat} {M : Mem} {Q : Option AV → Mem → Prop} {l1 : Int32} (hS : RfS M) (hd : 1 ≤ d)
    (h : ((¬ (mI M 75 4) = (-1) → WA X d kc ns m_X11_readLand 166 [some (vR 75), none, none, none] [] M Q) ∧ ((mI M 75 4) = (-1) → Cl X (d - 1) 0 0 m_X11_look [vR 75] M (fun r M1 => ∃ x1 : Int32, r = some (vI x1) ∧ Ext M M1 ∧ ((¬ x1 = (nI 59) → WA X d kc ns m_X11_readLand 166 [some (vR 75), none, none, none] [] M1 Q) ∧ (x1 = (nI 59) → ∀ M2 : Mem, M2 = sI M1 75 3 ((mI M1 75 3) + (nI 1)) → Cl X (d - 1) 0 0 m_X11_sentence [vR 75, vI l1] M2 (fun r M3 => r = none ∧ Ext M2 M3 ∧ WA X d kc ns m_X11_readLand 131 [some (vR 75), some (vI l1), none, none] [] M3 Q))))))) :
    WA X d kc ns m_X11_readLand 131 [some (vR 75), some (vI l1), none, none] [] M Q := by
  refine x_aload_n (tk K_X11_readLand 82 rfl) rfl rfl ?_
  refine x_getI (tk K_X11_readLand 83 rfl) f_X11_110 rfl (RfS.o hS) ?_
  refine x_iconst (tk K_X11_readLand 84 rfl) ic_m1 ?_
  refine x_icmp_ne (t := 166) (tk K_X11_readLand 85 rfl) rfl (fun hc => ?_) (fun hc => ?_)
  · have h := h.1 hc
    refine x_msk [true, false, false, false] ?_
    exact h
  · have h := h.2 hc
    refine x_aload_n (tk K_X11_readLand 86 rfl) rfl rfl ?_
    refine x_callV0 (As := []) (S := []) (tk K_X11_readLand 87 rfl) mk_X11_113 mo_X11_look (RfS.o hS) rfl rfl (Nat.le_of_ble_eq_true rfl) hd h (fun r M1 hq => ?_)
    obtain ⟨x1, rfl, hE, h⟩ := hq
    have hT0 := RfS.ext hS hE
    refine x_bipush (tk K_X11_readLand 88 rfl) bp_59 ?_
    refine x_icmp_ne (t := 166) (tk K_X11_readLand 89 rfl) rfl (fun hc => ?_) (fun hc => ?_)
    · have h := h.1 hc
      refine x_msk [true, false, false, false] ?_
      exact h
    · have h := h.2 hc
      refine x_aload_n (tk K_X11_readLand 90 rfl) rfl rfl ?_
      refine x_dup (tk K_X11_readLand 91 rfl) rfl ?_
      refine x_getI (tk K_X11_readLand 92 rfl) f_X11_107 rfl (RfS.o hT0) ?_
      refine x_iconst (tk K_X11_readLand 93 rfl) ic_1 ?_
      refine x_iadd (tk K_X11_readLand 94 rfl) ?_
      have h := h _ rfl
      refine x_putI (tk K_X11_readLand 95 rfl) f_X11_107 rfl (Or.inl rfl) (RfS.o hT0) ?_
      refine x_aload_n (tk K_X11_readLand 96 rfl) rfl rfl ?_
      refine x_iload_n (tk K_X11_readLand 97 rfl) rfl rfl ?_
      refine x_callV0 (As := [vI _]) (S := []) (tk K_X11_readLand 98 rfl) mk_X11_145 mo_X11_sentence (RfS.o hT0) rfl rfl (Nat.le_of_ble_eq_true rfl) hd h (fun r M3 hq => ?_)
      obtain ⟨rfl, hE, h⟩ := hq
      have hT1 := RfS.ext hT0 hE
      refine x_goto (t := 131) (tk K_X11_readLand 99 rfl) rfl ?_
      exact h

theorem b_X11_readLand_166 {X : Cx} {d kc ns : Nat} {M : Mem} {Q : Option AV → Mem → Prop} (hS : RfS M) (hd : 1 ≤ d)
    (h : ((¬ (mI M 75 4) = (-1) → Q (some (vI (mI M 75 4))) M) ∧ ((mI M 75 4) = (-1) → Cl X (d - 1) 0 0 m_X11_look [vR 75] M (fun r M1 => ∃ x1 : Int32, r = some (vI x1) ∧ Ext M M1 ∧ ((x1 = (-1) → Q (some (vI (mI M1 75 4))) M1) ∧ (¬ x1 = (-1) → Cl X (d - 1) 0 0 m_X11_bad [vR 75, vI (mI M1 75 3)] M1 (fun r M2 => r = none ∧ Ext M1 M2 ∧ Q (some (vI (mI M2 75 4))) M2))))))) :
    WA X d kc ns m_X11_readLand 166 [some (vR 75), none, none, none] [] M Q := by
  refine x_aload_n (tk K_X11_readLand 100 rfl) rfl rfl ?_
  refine x_getI (tk K_X11_readLand 101 rfl) f_X11_110 rfl (RfS.o hS) ?_
  refine x_iconst (tk K_X11_readLand 102 rfl) ic_m1 ?_
  refine x_icmp_ne (t := 190) (tk K_X11_readLand 103 rfl) rfl (fun hc => ?_) (fun hc => ?_)
  · have h := h.1 hc
    refine x_aload_n (tk K_X11_readLand 112 rfl) rfl rfl ?_
    refine x_getI (tk K_X11_readLand 113 rfl) f_X11_110 rfl (RfS.o hS) ?_
    exact x_ireturn (tk K_X11_readLand 114 rfl) rfl rfl h
  · have h := h.2 hc
    refine x_aload_n (tk K_X11_readLand 104 rfl) rfl rfl ?_
    refine x_callV0 (As := []) (S := []) (tk K_X11_readLand 105 rfl) mk_X11_113 mo_X11_look (RfS.o hS) rfl rfl (Nat.le_of_ble_eq_true rfl) hd h (fun r M1 hq => ?_)
    obtain ⟨x1, rfl, hE, h⟩ := hq
    have hT0 := RfS.ext hS hE
    refine x_iconst (tk K_X11_readLand 106 rfl) ic_m1 ?_
    refine x_icmp_eq (t := 190) (tk K_X11_readLand 107 rfl) rfl (fun hc => ?_) (fun hc => ?_)
    · have h := h.1 hc
      refine x_aload_n (tk K_X11_readLand 112 rfl) rfl rfl ?_
      refine x_getI (tk K_X11_readLand 113 rfl) f_X11_110 rfl (RfS.o hT0) ?_
      exact x_ireturn (tk K_X11_readLand 114 rfl) rfl rfl h
    · have h := h.2 hc
      refine x_aload_n (tk K_X11_readLand 108 rfl) rfl rfl ?_
      refine x_aload_n (tk K_X11_readLand 109 rfl) rfl rfl ?_
      refine x_getI (tk K_X11_readLand 110 rfl) f_X11_107 rfl (RfS.o hT0) ?_
      refine x_callV0 (As := [vI _]) (S := []) (tk K_X11_readLand 111 rfl) mk_X11_121 mo_X11_bad (RfS.o hT0) rfl rfl (Nat.le_of_ble_eq_true rfl) hd h (fun r M2 hq => ?_)
      obtain ⟨rfl, hE, h⟩ := hq
      have hT1 := RfS.ext hT0 hE
      refine x_aload_n (tk K_X11_readLand 112 rfl) rfl rfl ?_
      refine x_getI (tk K_X11_readLand 113 rfl) f_X11_110 rfl (RfS.o hT1) ?_
      exact x_ireturn (tk K_X11_readLand 114 rfl) rfl rfl h

theorem e_X11_readLand {X : Cx} {d kc ns : Nat} {M : Mem} {Q : Option AV → Mem → Prop} {a1 : Int32} (h : WA X d kc ns m_X11_readLand 0 [some (vR 75), some (vI a1), none, none] [] M Q) : Cl X d kc ns m_X11_readLand [vR 75, vI a1] M Q := Cl.intro (k := 2) (by decide) rfl rfl h

-- TwoPencilsModel.sentence(I)V
theorem b_X11_sentence_0 {X : Cx} {d kc ns : Nat} {M : Mem} {Q : Option AV → Mem → Prop} {l1 : Int32} (hS : RfS M) (hd : 1 ≤ d)
    (h : Cl X (d - 1) 0 0 m_X11_look [vR 75] M (fun r M1 => ∃ x1 : Int32, r = some (vI x1) ∧ Ext M M1 ∧ ((x1 = (nI 60) → WA X d kc ns m_X11_sentence 17 [some (vR 75), some (vI l1), some (vI x1), none, none, none] [] M1 Q) ∧ (¬ x1 = (nI 60) → ((¬ x1 = (nI 62) → vp_in l1 7 ∧ Cl X (d - 1) 0 0 m_X11_number [vR 75, vI (nI 0), vI ((mI M1 77 (ix l1)) - (nI 1)), vI (-1)] M1 (fun r M2 => ∃ x2 : Int32, r = some (vI x2) ∧ Ext M1 M2 ∧ ((¬ (mI M2 75 4) = (-1) → WA X d kc ns m_X11_sentence 92 [some (vR 75), some (vI l1), none, some (vI x2), none, none] [vI (-1)] M2 Q) ∧ ((mI M2 75 4) = (-1) → Cl X (d - 1) 0 0 m_X11_look [vR 75] M2 (fun r M3 => ∃ x3 : Int32, r = some (vI x3) ∧ Ext M2 M3 ∧ WA X d kc ns m_X11_sentence 92 [some (vR 75), some (vI l1), none, some (vI x2), none, none] [vI x3] M3 Q))))) ∧ (x1 = (nI 62) → WA X d kc ns m_X11_sentence 17 [some (vR 75), some (vI l1), some (vI x1), none, none, none] [] M1 Q)))))) :
    WA X d kc ns m_X11_sentence 0 [some (vR 75), some (vI l1), none, none, none, none] [] M Q := by
  refine x_aload_n (tk K_X11_sentence 0 rfl) rfl rfl ?_
  refine x_callV0 (As := []) (S := []) (tk K_X11_sentence 1 rfl) mk_X11_113 mo_X11_look (RfS.o hS) rfl rfl (Nat.le_of_ble_eq_true rfl) hd h (fun r M1 hq => ?_)
  obtain ⟨x1, rfl, hE, h⟩ := hq
  have hT0 := RfS.ext hS hE
  refine x_istore_n (L' := [some (vR _), some (vI _), some (vI _), none, none, none]) (tk K_X11_sentence 2 rfl) rfl rfl (Nat.le_of_ble_eq_true rfl) rfl ?_
  refine x_iload_n (tk K_X11_sentence 3 rfl) rfl rfl ?_
  refine x_bipush (tk K_X11_sentence 4 rfl) bp_60 ?_
  refine x_icmp_eq (t := 17) (tk K_X11_sentence 5 rfl) rfl (fun hc => ?_) (fun hc => ?_)
  · have h := h.1 hc
    exact h
  · have h := h.2 hc
    refine x_iload_n (tk K_X11_sentence 6 rfl) rfl rfl ?_
    refine x_bipush (tk K_X11_sentence 7 rfl) bp_62 ?_
    refine x_icmp_ne (t := 61) (tk K_X11_sentence 8 rfl) rfl (fun hc => ?_) (fun hc => ?_)
    · have h := h.1 hc
      refine x_aload_n (tk K_X11_sentence 36 rfl) rfl rfl ?_
      refine x_iconst (tk K_X11_sentence 37 rfl) ic_0 ?_
      refine x_aload_n (tk K_X11_sentence 38 rfl) rfl rfl ?_
      refine x_getRc (tk K_X11_sentence 39 rfl) f_X11_13 rfl (RfS.o hT0) (RfS.r5 hT0) ?_
      refine x_iload_n (tk K_X11_sentence 40 rfl) rfl rfl ?_
      have hi := h.1
      have h := h.2
      refine x_iald (tk K_X11_sentence 41 rfl) (RfS.k5 hT0) hi ?_
      refine x_iconst (tk K_X11_sentence 42 rfl) ic_1 ?_
      refine x_isub (tk K_X11_sentence 43 rfl) ?_
      refine x_iconst (tk K_X11_sentence 44 rfl) ic_m1 ?_
      refine x_callV0 (As := [vI _, vI _, vI _]) (S := []) (tk K_X11_sentence 45 rfl) mk_X11_133 mo_X11_number (RfS.o hT0) rfl rfl (Nat.le_of_ble_eq_true rfl) hd h (fun r M2 hq => ?_)
      obtain ⟨x2, rfl, hE, h⟩ := hq
      have hT1 := RfS.ext hT0 hE
      have hT2 := hE.1 _ _ _ (RfS.k5 hT0)
      refine x_istore_n (L' := [some (vR _), some (vI _), some (vI _), some (vI _), none, none]) (tk K_X11_sentence 46 rfl) rfl rfl (Nat.le_of_ble_eq_true rfl) rfl ?_
      refine x_aload_n (tk K_X11_sentence 47 rfl) rfl rfl ?_
      refine x_getI (tk K_X11_sentence 48 rfl) f_X11_110 rfl (RfS.o hT1) ?_
      refine x_iconst (tk K_X11_sentence 49 rfl) ic_m1 ?_
      refine x_icmp_ne (t := 91) (tk K_X11_sentence 50 rfl) rfl (fun hc => ?_) (fun hc => ?_)
      · have h := h.1 hc
        refine x_iconst (tk K_X11_sentence 54 rfl) ic_m1 ?_
        refine x_msk [true, true, false, true, false, false] ?_
        exact h
      · have h := h.2 hc
        refine x_aload_n (tk K_X11_sentence 51 rfl) rfl rfl ?_
        refine x_callV0 (As := []) (S := []) (tk K_X11_sentence 52 rfl) mk_X11_113 mo_X11_look (RfS.o hT1) rfl rfl (Nat.le_of_ble_eq_true rfl) hd h (fun r M3 hq => ?_)
        obtain ⟨x3, rfl, hE, h⟩ := hq
        have hT3 := RfS.ext hT1 hE
        have hT4 := hE.1 _ _ _ hT2
        refine x_goto (t := 92) (tk K_X11_sentence 53 rfl) rfl ?_
        refine x_msk [true, true, false, true, false, false] ?_
        exact h
    · have h := h.2 hc
      exact h

theorem b_X11_sentence_17 {X : Cx} {d kc ns : Nat} {M : Mem} {Q : Option AV → Mem → Prop} {l1 : Int32} {l2 : Int32} (hS : RfS M) (hd : 1 ≤ d)
    (h : ∀ M1 : Mem, M1 = sI M 75 3 ((mI M 75 3) + (nI 1)) → Cl X (d - 1) 0 0 m_X11_number [vR 75, vI (nI 0), vI (nI 999), vI (-1)] M1 (fun r M2 => ∃ x1 : Int32, r = some (vI x1) ∧ Ext M1 M2 ∧ ((¬ l2 = (nI 60) → vp_in l1 7 ∧ ∀ M3 : Mem, M3 = sI M2 79 (ix l1) x1 → Q none M3) ∧ (l2 = (nI 60) → vp_in l1 7 ∧ ∀ M4 : Mem, M4 = sI M2 80 (ix l1) x1 → Q none M4)))) :
    WA X d kc ns m_X11_sentence 17 [some (vR 75), some (vI l1), some (vI l2), none, none, none] [] M Q := by
  refine x_aload_n (tk K_X11_sentence 9 rfl) rfl rfl ?_
  refine x_dup (tk K_X11_sentence 10 rfl) rfl ?_
  refine x_getI (tk K_X11_sentence 11 rfl) f_X11_107 rfl (RfS.o hS) ?_
  refine x_iconst (tk K_X11_sentence 12 rfl) ic_1 ?_
  refine x_iadd (tk K_X11_sentence 13 rfl) ?_
  have h := h _ rfl
  refine x_putI (tk K_X11_sentence 14 rfl) f_X11_107 rfl (Or.inl rfl) (RfS.o hS) ?_
  refine x_aload_n (tk K_X11_sentence 15 rfl) rfl rfl ?_
  refine x_iconst (tk K_X11_sentence 16 rfl) ic_0 ?_
  refine x_sipush (tk K_X11_sentence 17 rfl) sp_999 ?_
  refine x_iconst (tk K_X11_sentence 18 rfl) ic_m1 ?_
  refine x_callV0 (As := [vI _, vI _, vI _]) (S := []) (tk K_X11_sentence 19 rfl) mk_X11_133 mo_X11_number (RfS.o hS) rfl rfl (Nat.le_of_ble_eq_true rfl) hd h (fun r M2 hq => ?_)
  obtain ⟨x1, rfl, hE, h⟩ := hq
  have hT0 := RfS.ext hS hE
  refine x_istore_n (L' := [some (vR _), some (vI _), some (vI _), some (vI _), none, none]) (tk K_X11_sentence 20 rfl) rfl rfl (Nat.le_of_ble_eq_true rfl) rfl ?_
  refine x_iload_n (tk K_X11_sentence 21 rfl) rfl rfl ?_
  refine x_bipush (tk K_X11_sentence 22 rfl) bp_60 ?_
  refine x_icmp_ne (t := 53) (tk K_X11_sentence 23 rfl) rfl (fun hc => ?_) (fun hc => ?_)
  · have h := h.1 hc
    refine x_aload_n (tk K_X11_sentence 30 rfl) rfl rfl ?_
    refine x_getRc (tk K_X11_sentence 31 rfl) f_X11_19 rfl (RfS.o hT0) (RfS.r7 hT0) ?_
    refine x_iload_n (tk K_X11_sentence 32 rfl) rfl rfl ?_
    refine x_iload_n (tk K_X11_sentence 33 rfl) rfl rfl ?_
    have hi := h.1
    have h := h.2
    have h := h _ rfl
    refine x_iast (tk K_X11_sentence 34 rfl) (RfS.k7 hT0) hi ?_
    exact x_return (tk K_X11_sentence 35 rfl) rfl h
  · have h := h.2 hc
    refine x_aload_n (tk K_X11_sentence 24 rfl) rfl rfl ?_
    refine x_getRc (tk K_X11_sentence 25 rfl) f_X11_22 rfl (RfS.o hT0) (RfS.r8 hT0) ?_
    refine x_iload_n (tk K_X11_sentence 26 rfl) rfl rfl ?_
    refine x_iload_n (tk K_X11_sentence 27 rfl) rfl rfl ?_
    have hi := h.1
    have h := h.2
    have h := h _ rfl
    refine x_iast (tk K_X11_sentence 28 rfl) (RfS.k8 hT0) hi ?_
    refine x_goto (t := 60) (tk K_X11_sentence 29 rfl) rfl ?_
    exact x_return (tk K_X11_sentence 35 rfl) rfl h

theorem b_X11_sentence_92 {X : Cx} {d kc ns : Nat} {M : Mem} {Q : Option AV → Mem → Prop} {l1 : Int32} {l3 : Int32} {s0 : Int32} (hS : RfS M) (hd : 1 ≤ d)
    (h : ((¬ s0 = (nI 58) → ((s0 = (nI 45) → WA X d kc ns m_X11_sentence 130 [some (vR 75), some (vI l1), some (vI s0), some (vI l3), none, none] [] M Q) ∧ (¬ s0 = (nI 45) → ((¬ s0 = (nI 61) → Cl X (d - 1) 0 0 m_X11_bad [vR 75, vI (mI M 75 3)] M (fun r M1 => r = none ∧ Ext M M1 ∧ Q none M1)) ∧ (s0 = (nI 61) → WA X d kc ns m_X11_sentence 130 [some (vR 75), some (vI l1), some (vI s0), some (vI l3), none, none] [] M Q))))) ∧ (s0 = (nI 58) → ∀ M2 : Mem, M2 = sI M 75 3 ((mI M 75 3) + (nI 1)) → Cl X (d - 1) 0 0 m_X11_tellVotes [vR 75, vI l1, vI l3] M2 (fun r M3 => r = none ∧ Ext M2 M3 ∧ Q none M3)))) :
    WA X d kc ns m_X11_sentence 92 [some (vR 75), some (vI l1), none, some (vI l3), none, none] [vI s0] M Q := by
  refine x_istore_n (L' := [some (vR _), some (vI _), some (vI _), some (vI _), none, none]) (tk K_X11_sentence 55 rfl) rfl rfl (Nat.le_of_ble_eq_true rfl) rfl ?_
  refine x_iload_n (tk K_X11_sentence 56 rfl) rfl rfl ?_
  refine x_bipush (tk K_X11_sentence 57 rfl) bp_58 ?_
  refine x_icmp_ne (t := 118) (tk K_X11_sentence 58 rfl) rfl (fun hc => ?_) (fun hc => ?_)
  · have h := h.1 hc
    refine x_iload_n (tk K_X11_sentence 70 rfl) rfl rfl ?_
    refine x_bipush (tk K_X11_sentence 71 rfl) bp_45 ?_
    refine x_icmp_eq (t := 130) (tk K_X11_sentence 72 rfl) rfl (fun hc => ?_) (fun hc => ?_)
    · have h := h.1 hc
      exact h
    · have h := h.2 hc
      refine x_iload_n (tk K_X11_sentence 73 rfl) rfl rfl ?_
      refine x_bipush (tk K_X11_sentence 74 rfl) bp_61 ?_
      refine x_icmp_ne (t := 218) (tk K_X11_sentence 75 rfl) rfl (fun hc => ?_) (fun hc => ?_)
      · have h := h.1 hc
        refine x_aload_n (tk K_X11_sentence 133 rfl) rfl rfl ?_
        refine x_aload_n (tk K_X11_sentence 134 rfl) rfl rfl ?_
        refine x_getI (tk K_X11_sentence 135 rfl) f_X11_107 rfl (RfS.o hS) ?_
        refine x_callV0 (As := [vI _]) (S := []) (tk K_X11_sentence 136 rfl) mk_X11_121 mo_X11_bad (RfS.o hS) rfl rfl (Nat.le_of_ble_eq_true rfl) hd h (fun r M1 hq => ?_)
        obtain ⟨rfl, hE, h⟩ := hq
        have hT0 := RfS.ext hS hE
        exact x_return (tk K_X11_sentence 137 rfl) rfl h
      · have h := h.2 hc
        exact h
  · have h := h.2 hc
    refine x_aload_n (tk K_X11_sentence 59 rfl) rfl rfl ?_
    refine x_dup (tk K_X11_sentence 60 rfl) rfl ?_
    refine x_getI (tk K_X11_sentence 61 rfl) f_X11_107 rfl (RfS.o hS) ?_
    refine x_iconst (tk K_X11_sentence 62 rfl) ic_1 ?_
    refine x_iadd (tk K_X11_sentence 63 rfl) ?_
    have h := h _ rfl
    refine x_putI (tk K_X11_sentence 64 rfl) f_X11_107 rfl (Or.inl rfl) (RfS.o hS) ?_
    refine x_aload_n (tk K_X11_sentence 65 rfl) rfl rfl ?_
    refine x_iload_n (tk K_X11_sentence 66 rfl) rfl rfl ?_
    refine x_iload_n (tk K_X11_sentence 67 rfl) rfl rfl ?_
    refine x_callV0 (As := [vI _, vI _]) (S := []) (tk K_X11_sentence 68 rfl) mk_X11_148 mo_X11_tellVotes (RfS.o hS) rfl rfl (Nat.le_of_ble_eq_true rfl) hd h (fun r M3 hq => ?_)
    obtain ⟨rfl, hE, h⟩ := hq
    have hT1 := RfS.ext hS hE
    refine x_goto (t := 226) (tk K_X11_sentence 69 rfl) rfl ?_
    exact x_return (tk K_X11_sentence 137 rfl) rfl h

theorem b_X11_sentence_130 {X : Cx} {d kc ns : Nat} {M : Mem} {Q : Option AV → Mem → Prop} {l1 : Int32} {l2 : Int32} {l3 : Int32} (hS : RfS M) (hd : 1 ≤ d)
    (h : ∀ M1 : Mem, M1 = sI M 75 3 ((mI M 75 3) + (nI 1)) → vp_in l1 7 ∧ Cl X (d - 1) 0 0 m_X11_number [vR 75, vI (nI 0), vI ((mI M1 77 (ix l1)) - (nI 1)), vI l3] M1 (fun r M2 => ∃ x1 : Int32, r = some (vI x1) ∧ Ext M1 M2 ∧ ((¬ l2 = (nI 45) → WA X d kc ns m_X11_sentence 173 [some (vR 75), some (vI l1), none, some (vI l3), some (vI x1), none] [vR 83] M2 Q) ∧ (l2 = (nI 45) → WA X d kc ns m_X11_sentence 173 [some (vR 75), some (vI l1), none, some (vI l3), some (vI x1), none] [vR 82] M2 Q)))) :
    WA X d kc ns m_X11_sentence 130 [some (vR 75), some (vI l1), some (vI l2), some (vI l3), none, none] [] M Q := by
  refine x_aload_n (tk K_X11_sentence 76 rfl) rfl rfl ?_
  refine x_dup (tk K_X11_sentence 77 rfl) rfl ?_
  refine x_getI (tk K_X11_sentence 78 rfl) f_X11_107 rfl (RfS.o hS) ?_
  refine x_iconst (tk K_X11_sentence 79 rfl) ic_1 ?_
  refine x_iadd (tk K_X11_sentence 80 rfl) ?_
  have h := h _ rfl
  refine x_putI (tk K_X11_sentence 81 rfl) f_X11_107 rfl (Or.inl rfl) (RfS.o hS) ?_
  refine x_aload_n (tk K_X11_sentence 82 rfl) rfl rfl ?_
  refine x_iconst (tk K_X11_sentence 83 rfl) ic_0 ?_
  refine x_aload_n (tk K_X11_sentence 84 rfl) rfl rfl ?_
  refine x_getRc (tk K_X11_sentence 85 rfl) f_X11_13 rfl (RfS.o hS) (RfS.r5 hS) ?_
  refine x_iload_n (tk K_X11_sentence 86 rfl) rfl rfl ?_
  have hi := h.1
  have h := h.2
  refine x_iald (tk K_X11_sentence 87 rfl) (RfS.k5 hS) hi ?_
  refine x_iconst (tk K_X11_sentence 88 rfl) ic_1 ?_
  refine x_isub (tk K_X11_sentence 89 rfl) ?_
  refine x_iload_n (tk K_X11_sentence 90 rfl) rfl rfl ?_
  refine x_callV0 (As := [vI _, vI _, vI _]) (S := []) (tk K_X11_sentence 91 rfl) mk_X11_133 mo_X11_number (RfS.o hS) rfl rfl (Nat.le_of_ble_eq_true rfl) hd h (fun r M2 hq => ?_)
  obtain ⟨x1, rfl, hE, h⟩ := hq
  have hT0 := RfS.ext hS hE
  have hT1 := hE.1 _ _ _ (RfS.k5 hS)
  refine x_istore (L' := [some (vR _), some (vI _), some (vI _), some (vI _), some (vI _), none]) (tk K_X11_sentence 92 rfl) rfl (Nat.le_of_ble_eq_true rfl) rfl ?_
  refine x_iload_n (tk K_X11_sentence 93 rfl) rfl rfl ?_
  refine x_bipush (tk K_X11_sentence 94 rfl) bp_45 ?_
  refine x_icmp_ne (t := 169) (tk K_X11_sentence 95 rfl) rfl (fun hc => ?_) (fun hc => ?_)
  · have h := h.1 hc
    refine x_aload_n (tk K_X11_sentence 99 rfl) rfl rfl ?_
    refine x_getRc (tk K_X11_sentence 100 rfl) f_X11_31 rfl (RfS.o hT0) (RfS.r11 hT0) ?_
    refine x_msk [true, true, false, true, true, false] ?_
    exact h
  · have h := h.2 hc
    refine x_aload_n (tk K_X11_sentence 96 rfl) rfl rfl ?_
    refine x_getRc (tk K_X11_sentence 97 rfl) f_X11_28 rfl (RfS.o hT0) (RfS.r10 hT0) ?_
    refine x_goto (t := 173) (tk K_X11_sentence 98 rfl) rfl ?_
    refine x_msk [true, true, false, true, true, false] ?_
    exact h

theorem b_X11_sentence_173 {X : Cx} {d kc ns : Nat} {M : Mem} {Q : Option AV → Mem → Prop} {l1 : Int32} {l3 : Int32} {l4 : Int32} {s0 : Nat} (hS : RfS M)
    (h : ((¬ (mI M 75 4) = (-1) → Q none M) ∧ ((mI M 75 4) = (-1) → ∃ n1 : Nat, isK M s0 14 n1 ∧ vp_in (((nI 9) * l1) + l3) n1 ∧ vp_in (((nI 9) * l1) + l3) n1 ∧ ∀ M1 : Mem, M1 = sI M s0 (ix (((nI 9) * l1) + l3)) ((mI M s0 (ix (((nI 9) * l1) + l3))) ||| (shl (nI 1) l4)) → vp_in (((nI 9) * l1) + l4) n1 ∧ vp_in (((nI 9) * l1) + l4) n1 ∧ ∀ M2 : Mem, M2 = sI M1 s0 (ix (((nI 9) * l1) + l4)) ((mI M1 s0 (ix (((nI 9) * l1) + l4))) ||| (shl (nI 1) l3)) → Q none M2))) :
    WA X d kc ns m_X11_sentence 173 [some (vR 75), some (vI l1), none, some (vI l3), some (vI l4), none] [vR s0] M Q := by
  refine x_astore (L' := [some (vR _), some (vI _), none, some (vI _), some (vI _), some (vR _)]) (tk K_X11_sentence 101 rfl) rfl (Nat.le_of_ble_eq_true rfl) rfl ?_
  refine x_aload_n (tk K_X11_sentence 102 rfl) rfl rfl ?_
  refine x_getI (tk K_X11_sentence 103 rfl) f_X11_110 rfl (RfS.o hS) ?_
  refine x_iconst (tk K_X11_sentence 104 rfl) ic_m1 ?_
  refine x_icmp_ne (t := 215) (tk K_X11_sentence 105 rfl) rfl (fun hc => ?_) (fun hc => ?_)
  · have h := h.1 hc
    refine x_goto (t := 226) (tk K_X11_sentence 132 rfl) rfl ?_
    exact x_return (tk K_X11_sentence 137 rfl) rfl h
  · have h := h.2 hc
    refine x_aload (tk K_X11_sentence 106 rfl) rfl ?_
    refine x_bipush (tk K_X11_sentence 107 rfl) bp_9 ?_
    refine x_iload_n (tk K_X11_sentence 108 rfl) rfl rfl ?_
    refine x_imul (tk K_X11_sentence 109 rfl) ?_
    refine x_iload_n (tk K_X11_sentence 110 rfl) rfl rfl ?_
    refine x_iadd (tk K_X11_sentence 111 rfl) ?_
    refine x_dup2 (tk K_X11_sentence 112 rfl) rfl rfl ?_
    obtain ⟨n1, hA_n1, h⟩ := h
    have hi := h.1
    have h := h.2
    refine x_iald (tk K_X11_sentence 113 rfl) hA_n1 hi ?_
    refine x_iconst (tk K_X11_sentence 114 rfl) ic_1 ?_
    refine x_iload (tk K_X11_sentence 115 rfl) rfl ?_
    refine x_ishl (tk K_X11_sentence 116 rfl) ?_
    refine x_ior (tk K_X11_sentence 117 rfl) ?_
    have hi := h.1
    have h := h.2
    have h := h _ rfl
    refine x_iast (tk K_X11_sentence 118 rfl) hA_n1 hi ?_
    refine x_aload (tk K_X11_sentence 119 rfl) rfl ?_
    refine x_bipush (tk K_X11_sentence 120 rfl) bp_9 ?_
    refine x_iload_n (tk K_X11_sentence 121 rfl) rfl rfl ?_
    refine x_imul (tk K_X11_sentence 122 rfl) ?_
    refine x_iload (tk K_X11_sentence 123 rfl) rfl ?_
    refine x_iadd (tk K_X11_sentence 124 rfl) ?_
    refine x_dup2 (tk K_X11_sentence 125 rfl) rfl rfl ?_
    have hi := h.1
    have h := h.2
    refine x_iald (tk K_X11_sentence 126 rfl) hA_n1 hi ?_
    refine x_iconst (tk K_X11_sentence 127 rfl) ic_1 ?_
    refine x_iload_n (tk K_X11_sentence 128 rfl) rfl rfl ?_
    refine x_ishl (tk K_X11_sentence 129 rfl) ?_
    refine x_ior (tk K_X11_sentence 130 rfl) ?_
    have hi := h.1
    have h := h.2
    have h := h _ rfl
    refine x_iast (tk K_X11_sentence 131 rfl) hA_n1 hi ?_
    refine x_goto (t := 226) (tk K_X11_sentence 132 rfl) rfl ?_
    exact x_return (tk K_X11_sentence 137 rfl) rfl h

theorem e_X11_sentence {X : Cx} {d kc ns : Nat} {M : Mem} {Q : Option AV → Mem → Prop} {a1 : Int32} (h : WA X d kc ns m_X11_sentence 0 [some (vR 75), some (vI a1), none, none, none, none] [] M Q) : Cl X d kc ns m_X11_sentence [vR 75, vI a1] M Q := Cl.intro (k := 4) (by decide) rfl rfl h

-- TwoPencilsModel.tellVotes(II)V
theorem b_X11_tellVotes_0 {X : Cx} {d kc ns : Nat} {M : Mem} {Q : Option AV → Mem → Prop} {l1 : Int32} {l2 : Int32} (hS : RfS M) (hd : 1 ≤ d)
    (h : Cl X (d - 1) 0 0 m_X11_voteAt [vI l1, vI l2, vI (nI 0)] M (fun r M1 => ∃ x1 : Int32, r = some (vI x1) ∧ Ext M M1 ∧ Cl X (d - 1) 0 0 m_X11_number [vR 75, vI (nI 0), vI (nI 99), vI (-1)] M1 (fun r M2 => ∃ x2 : Int32, r = some (vI x2) ∧ Ext M1 M2 ∧ vp_in x1 189 ∧ ∀ M3 : Mem, M3 = sI M2 81 (ix x1) x2 → Cl X (d - 1) 0 0 m_X11_sign [vR 75, vI (nI 44)] M3 (fun r M4 => r = none ∧ Ext M3 M4 ∧ Cl X (d - 1) 0 0 m_X11_voteAt [vI l1, vI l2, vI (nI 1)] M4 (fun r M5 => ∃ x3 : Int32, r = some (vI x3) ∧ Ext M4 M5 ∧ Cl X (d - 1) 0 0 m_X11_number [vR 75, vI (nI 0), vI (nI 99), vI (-1)] M5 (fun r M6 => ∃ x4 : Int32, r = some (vI x4) ∧ Ext M5 M6 ∧ vp_in x3 189 ∧ ∀ M7 : Mem, M7 = sI M6 81 (ix x3) x4 → Cl X (d - 1) 0 0 m_X11_voteAt [vI l1, vI l2, vI (nI 2)] M7 (fun r M8 => ∃ x5 : Int32, r = some (vI x5) ∧ Ext M7 M8 ∧ vp_in x5 189 ∧ ∀ M9 : Mem, M9 = sI M8 81 (ix x5) (nI 0) → ((¬ (mI M9 75 4) = (-1) → Q none M9) ∧ ((mI M9 75 4) = (-1) → Cl X (d - 1) 0 0 m_X11_look [vR 75] M9 (fun r M10 => ∃ x6 : Int32, r = some (vI x6) ∧ Ext M9 M10 ∧ ((¬ x6 = (nI 44) → Q none M10) ∧ (x6 = (nI 44) → ∀ M11 : Mem, M11 = sI M10 75 3 ((mI M10 75 3) + (nI 1)) → Cl X (d - 1) 0 0 m_X11_voteAt [vI l1, vI l2, vI (nI 2)] M11 (fun r M12 => ∃ x7 : Int32, r = some (vI x7) ∧ Ext M11 M12 ∧ Cl X (d - 1) 0 0 m_X11_number [vR 75, vI (nI 0), vI (nI 99), vI (-1)] M12 (fun r M13 => ∃ x8 : Int32, r = some (vI x8) ∧ Ext M12 M13 ∧ vp_in x7 189 ∧ ∀ M14 : Mem, M14 = sI M13 81 (ix x7) x8 → Q none M14)))))))))))))) :
    WA X d kc ns m_X11_tellVotes 0 [some (vR 75), some (vI l1), some (vI l2)] [] M Q := by
  refine x_aload_n (tk K_X11_tellVotes 0 rfl) rfl rfl ?_
  refine x_getRc (tk K_X11_tellVotes 1 rfl) f_X11_25 rfl (RfS.o hS) (RfS.r9 hS) ?_
  refine x_iload_n (tk K_X11_tellVotes 2 rfl) rfl rfl ?_
  refine x_iload_n (tk K_X11_tellVotes 3 rfl) rfl rfl ?_
  refine x_iconst (tk K_X11_tellVotes 4 rfl) ic_0 ?_
  refine x_callS0 (As := [vI _, vI _, vI _]) (S := [vR _]) (tk K_X11_tellVotes 5 rfl) mk_X11_129 mo_X11_voteAt rfl rfl (Nat.le_of_ble_eq_true rfl) hd h (fun r M1 hq => ?_)
  obtain ⟨x1, rfl, hE, h⟩ := hq
  have hT0 := RfS.ext hS hE
  have hT1 := hE.1 _ _ _ (RfS.k9 hS)
  refine x_aload_n (tk K_X11_tellVotes 6 rfl) rfl rfl ?_
  refine x_iconst (tk K_X11_tellVotes 7 rfl) ic_0 ?_
  refine x_bipush (tk K_X11_tellVotes 8 rfl) bp_99 ?_
  refine x_iconst (tk K_X11_tellVotes 9 rfl) ic_m1 ?_
  refine x_callV0 (As := [vI _, vI _, vI _]) (S := [vI _, vR _]) (tk K_X11_tellVotes 10 rfl) mk_X11_133 mo_X11_number (RfS.o hT0) rfl rfl (Nat.le_of_ble_eq_true rfl) hd h (fun r M2 hq => ?_)
  obtain ⟨x2, rfl, hE, h⟩ := hq
  have hT2 := RfS.ext hT0 hE
  have hT3 := hE.1 _ _ _ hT1
  have hi := h.1
  have h := h.2
  have h := h _ rfl
  refine x_iast (tk K_X11_tellVotes 11 rfl) hT3 hi ?_
  refine x_aload_n (tk K_X11_tellVotes 12 rfl) rfl rfl ?_
  refine x_bipush (tk K_X11_tellVotes 13 rfl) bp_44 ?_
  refine x_callV0 (As := [vI _]) (S := []) (tk K_X11_tellVotes 14 rfl) mk_X11_136 mo_X11_sign (RfS.o hT2) rfl rfl (Nat.le_of_ble_eq_true rfl) hd h (fun r M4 hq => ?_)
  obtain ⟨rfl, hE, h⟩ := hq
  have hT4 := RfS.ext hT2 hE
  have hT5 := hE.1 _ _ _ hT3
  refine x_aload_n (tk K_X11_tellVotes 15 rfl) rfl rfl ?_
  refine x_getRc (tk K_X11_tellVotes 16 rfl) f_X11_25 rfl (RfS.o hT4) (RfS.r9 hT4) ?_
  refine x_iload_n (tk K_X11_tellVotes 17 rfl) rfl rfl ?_
  refine x_iload_n (tk K_X11_tellVotes 18 rfl) rfl rfl ?_
  refine x_iconst (tk K_X11_tellVotes 19 rfl) ic_1 ?_
  refine x_callS0 (As := [vI _, vI _, vI _]) (S := [vR _]) (tk K_X11_tellVotes 20 rfl) mk_X11_129 mo_X11_voteAt rfl rfl (Nat.le_of_ble_eq_true rfl) hd h (fun r M5 hq => ?_)
  obtain ⟨x3, rfl, hE, h⟩ := hq
  have hT6 := RfS.ext hT4 hE
  have hT7 := hE.1 _ _ _ (RfS.k9 hT4)
  refine x_aload_n (tk K_X11_tellVotes 21 rfl) rfl rfl ?_
  refine x_iconst (tk K_X11_tellVotes 22 rfl) ic_0 ?_
  refine x_bipush (tk K_X11_tellVotes 23 rfl) bp_99 ?_
  refine x_iconst (tk K_X11_tellVotes 24 rfl) ic_m1 ?_
  refine x_callV0 (As := [vI _, vI _, vI _]) (S := [vI _, vR _]) (tk K_X11_tellVotes 25 rfl) mk_X11_133 mo_X11_number (RfS.o hT6) rfl rfl (Nat.le_of_ble_eq_true rfl) hd h (fun r M6 hq => ?_)
  obtain ⟨x4, rfl, hE, h⟩ := hq
  have hT8 := RfS.ext hT6 hE
  have hT9 := hE.1 _ _ _ hT7
  have hi := h.1
  have h := h.2
  have h := h _ rfl
  refine x_iast (tk K_X11_tellVotes 26 rfl) hT9 hi ?_
  refine x_aload_n (tk K_X11_tellVotes 27 rfl) rfl rfl ?_
  refine x_getRc (tk K_X11_tellVotes 28 rfl) f_X11_25 rfl (RfS.o hT8) (RfS.r9 hT8) ?_
  refine x_iload_n (tk K_X11_tellVotes 29 rfl) rfl rfl ?_
  refine x_iload_n (tk K_X11_tellVotes 30 rfl) rfl rfl ?_
  refine x_iconst (tk K_X11_tellVotes 31 rfl) ic_2 ?_
  refine x_callS0 (As := [vI _, vI _, vI _]) (S := [vR _]) (tk K_X11_tellVotes 32 rfl) mk_X11_129 mo_X11_voteAt rfl rfl (Nat.le_of_ble_eq_true rfl) hd h (fun r M8 hq => ?_)
  obtain ⟨x5, rfl, hE, h⟩ := hq
  have hT10 := RfS.ext hT8 hE
  have hT11 := hE.1 _ _ _ (RfS.k9 hT8)
  refine x_iconst (tk K_X11_tellVotes 33 rfl) ic_0 ?_
  have hi := h.1
  have h := h.2
  have h := h _ rfl
  refine x_iast (tk K_X11_tellVotes 34 rfl) hT11 hi ?_
  refine x_aload_n (tk K_X11_tellVotes 35 rfl) rfl rfl ?_
  refine x_getI (tk K_X11_tellVotes 36 rfl) f_X11_110 rfl (RfS.o hT10) ?_
  refine x_iconst (tk K_X11_tellVotes 37 rfl) ic_m1 ?_
  refine x_icmp_ne (t := 102) (tk K_X11_tellVotes 38 rfl) rfl (fun hc => ?_) (fun hc => ?_)
  · have h := h.1 hc
    exact x_return (tk K_X11_tellVotes 61 rfl) rfl h
  · have h := h.2 hc
    refine x_aload_n (tk K_X11_tellVotes 39 rfl) rfl rfl ?_
    refine x_callV0 (As := []) (S := []) (tk K_X11_tellVotes 40 rfl) mk_X11_113 mo_X11_look (RfS.o hT10) rfl rfl (Nat.le_of_ble_eq_true rfl) hd h (fun r M10 hq => ?_)
    obtain ⟨x6, rfl, hE, h⟩ := hq
    have hT12 := RfS.ext hT10 hE
    have hT13 := hE.1 _ _ _ hT11
    refine x_bipush (tk K_X11_tellVotes 41 rfl) bp_44 ?_
    refine x_icmp_ne (t := 102) (tk K_X11_tellVotes 42 rfl) rfl (fun hc => ?_) (fun hc => ?_)
    · have h := h.1 hc
      exact x_return (tk K_X11_tellVotes 61 rfl) rfl h
    · have h := h.2 hc
      refine x_aload_n (tk K_X11_tellVotes 43 rfl) rfl rfl ?_
      refine x_dup (tk K_X11_tellVotes 44 rfl) rfl ?_
      refine x_getI (tk K_X11_tellVotes 45 rfl) f_X11_107 rfl (RfS.o hT12) ?_
      refine x_iconst (tk K_X11_tellVotes 46 rfl) ic_1 ?_
      refine x_iadd (tk K_X11_tellVotes 47 rfl) ?_
      have h := h _ rfl
      refine x_putI (tk K_X11_tellVotes 48 rfl) f_X11_107 rfl (Or.inl rfl) (RfS.o hT12) ?_
      refine x_aload_n (tk K_X11_tellVotes 49 rfl) rfl rfl ?_
      refine x_getRc (tk K_X11_tellVotes 50 rfl) f_X11_25 rfl (RfS.o hT12) (RfS.r9 hT12) ?_
      refine x_iload_n (tk K_X11_tellVotes 51 rfl) rfl rfl ?_
      refine x_iload_n (tk K_X11_tellVotes 52 rfl) rfl rfl ?_
      refine x_iconst (tk K_X11_tellVotes 53 rfl) ic_2 ?_
      refine x_callS0 (As := [vI _, vI _, vI _]) (S := [vR _]) (tk K_X11_tellVotes 54 rfl) mk_X11_129 mo_X11_voteAt rfl rfl (Nat.le_of_ble_eq_true rfl) hd h (fun r M12 hq => ?_)
      obtain ⟨x7, rfl, hE, h⟩ := hq
      have hT14 := RfS.ext hT12 hE
      have hT15 := hE.1 _ _ _ (RfS.k9 hT12)
      refine x_aload_n (tk K_X11_tellVotes 55 rfl) rfl rfl ?_
      refine x_iconst (tk K_X11_tellVotes 56 rfl) ic_0 ?_
      refine x_bipush (tk K_X11_tellVotes 57 rfl) bp_99 ?_
      refine x_iconst (tk K_X11_tellVotes 58 rfl) ic_m1 ?_
      refine x_callV0 (As := [vI _, vI _, vI _]) (S := [vI _, vR _]) (tk K_X11_tellVotes 59 rfl) mk_X11_133 mo_X11_number (RfS.o hT14) rfl rfl (Nat.le_of_ble_eq_true rfl) hd h (fun r M13 hq => ?_)
      obtain ⟨x8, rfl, hE, h⟩ := hq
      have hT16 := RfS.ext hT14 hE
      have hT17 := hE.1 _ _ _ hT15
      have hi := h.1
      have h := h.2
      have h := h _ rfl
      refine x_iast (tk K_X11_tellVotes 60 rfl) hT17 hi ?_
      exact x_return (tk K_X11_tellVotes 61 rfl) rfl h

theorem e_X11_tellVotes {X : Cx} {d kc ns : Nat} {M : Mem} {Q : Option AV → Mem → Prop} {a1 : Int32} {a2 : Int32} (h : WA X d kc ns m_X11_tellVotes 0 [some (vR 75), some (vI a1), some (vI a2)] [] M Q) : Cl X d kc ns m_X11_tellVotes [vR 75, vI a1, vI a2] M Q := Cl.intro (k := 0) (by decide) rfl rfl h

-- TwoPencilsModel.readProtocol(I)I
theorem b_X11_readProtocol_0 {X : Cx} {d kc ns : Nat} {M : Mem} {Q : Option AV → Mem → Prop} {l1 : Int32} (hS : RfS M) (hd : 1 ≤ d)
    (h : ∀ M1 : Mem, M1 = sI M 75 3 (nI 0) → ∀ M2 : Mem, M2 = sI M1 75 4 (-1) → vp_in l1 9 ∧ ∀ M3 : Mem, M3 = sI M2 84 (ix l1) (nI 0) → Cl X (d - 1) 0 0 m_X11_round [vR 75, vI l1] M3 (fun r M4 => r = none ∧ Ext M3 M4 ∧ WA X d kc ns m_X11_readProtocol 22 [some (vR 75), some (vI l1)] [] M4 Q)) :
    WA X d kc ns m_X11_readProtocol 0 [some (vR 75), some (vI l1)] [] M Q := by
  refine x_aload_n (tk K_X11_readProtocol 0 rfl) rfl rfl ?_
  refine x_iconst (tk K_X11_readProtocol 1 rfl) ic_0 ?_
  have h := h _ rfl
  refine x_putI (tk K_X11_readProtocol 2 rfl) f_X11_107 rfl (Or.inl rfl) (RfS.o hS) ?_
  refine x_aload_n (tk K_X11_readProtocol 3 rfl) rfl rfl ?_
  refine x_iconst (tk K_X11_readProtocol 4 rfl) ic_m1 ?_
  have h := h _ rfl
  refine x_putI (tk K_X11_readProtocol 5 rfl) f_X11_110 rfl (Or.inl rfl) (RfS.o hS) ?_
  refine x_aload_n (tk K_X11_readProtocol 6 rfl) rfl rfl ?_
  refine x_getRc (tk K_X11_readProtocol 7 rfl) f_X11_34 rfl (RfS.o hS) (RfS.r13 hS) ?_
  refine x_iload_n (tk K_X11_readProtocol 8 rfl) rfl rfl ?_
  refine x_iconst (tk K_X11_readProtocol 9 rfl) ic_0 ?_
  have hi := h.1
  have h := h.2
  have h := h _ rfl
  refine x_iast (tk K_X11_readProtocol 10 rfl) (RfS.k13 hS) hi ?_
  refine x_aload_n (tk K_X11_readProtocol 11 rfl) rfl rfl ?_
  refine x_iload_n (tk K_X11_readProtocol 12 rfl) rfl rfl ?_
  refine x_callV0 (As := [vI _]) (S := []) (tk K_X11_readProtocol 13 rfl) mk_X11_152 mo_X11_round (RfS.o hS) rfl rfl (Nat.le_of_ble_eq_true rfl) hd h (fun r M4 hq => ?_)
  obtain ⟨rfl, hE, h⟩ := hq
  have hT0 := RfS.ext hS hE
  have hT1 := hE.1 _ _ _ (RfS.k13 hS)
  exact h

theorem b_X11_readProtocol_22 {X : Cx} {d kc ns : Nat} {M : Mem} {Q : Option AV → Mem → Prop} {l1 : Int32} (hS : RfS M) (hd : 1 ≤ d)
    (h : ((¬ (mI M 75 4) = (-1) → WA X d kc ns m_X11_readProtocol 57 [some (vR 75), none] [] M Q) ∧ ((mI M 75 4) = (-1) → Cl X (d - 1) 0 0 m_X11_look [vR 75] M (fun r M1 => ∃ x1 : Int32, r = some (vI x1) ∧ Ext M M1 ∧ ((¬ x1 = (nI 44) → WA X d kc ns m_X11_readProtocol 57 [some (vR 75), none] [] M1 Q) ∧ (x1 = (nI 44) → ∀ M2 : Mem, M2 = sI M1 75 3 ((mI M1 75 3) + (nI 1)) → Cl X (d - 1) 0 0 m_X11_round [vR 75, vI l1] M2 (fun r M3 => r = none ∧ Ext M2 M3 ∧ WA X d kc ns m_X11_readProtocol 22 [some (vR 75), some (vI l1)] [] M3 Q))))))) :
    WA X d kc ns m_X11_readProtocol 22 [some (vR 75), some (vI l1)] [] M Q := by
  refine x_aload_n (tk K_X11_readProtocol 14 rfl) rfl rfl ?_
  refine x_getI (tk K_X11_readProtocol 15 rfl) f_X11_110 rfl (RfS.o hS) ?_
  refine x_iconst (tk K_X11_readProtocol 16 rfl) ic_m1 ?_
  refine x_icmp_ne (t := 57) (tk K_X11_readProtocol 17 rfl) rfl (fun hc => ?_) (fun hc => ?_)
  · have h := h.1 hc
    refine x_msk [true, false] ?_
    exact h
  · have h := h.2 hc
    refine x_aload_n (tk K_X11_readProtocol 18 rfl) rfl rfl ?_
    refine x_callV0 (As := []) (S := []) (tk K_X11_readProtocol 19 rfl) mk_X11_113 mo_X11_look (RfS.o hS) rfl rfl (Nat.le_of_ble_eq_true rfl) hd h (fun r M1 hq => ?_)
    obtain ⟨x1, rfl, hE, h⟩ := hq
    have hT0 := RfS.ext hS hE
    refine x_bipush (tk K_X11_readProtocol 20 rfl) bp_44 ?_
    refine x_icmp_ne (t := 57) (tk K_X11_readProtocol 21 rfl) rfl (fun hc => ?_) (fun hc => ?_)
    · have h := h.1 hc
      refine x_msk [true, false] ?_
      exact h
    · have h := h.2 hc
      refine x_aload_n (tk K_X11_readProtocol 22 rfl) rfl rfl ?_
      refine x_dup (tk K_X11_readProtocol 23 rfl) rfl ?_
      refine x_getI (tk K_X11_readProtocol 24 rfl) f_X11_107 rfl (RfS.o hT0) ?_
      refine x_iconst (tk K_X11_readProtocol 25 rfl) ic_1 ?_
      refine x_iadd (tk K_X11_readProtocol 26 rfl) ?_
      have h := h _ rfl
      refine x_putI (tk K_X11_readProtocol 27 rfl) f_X11_107 rfl (Or.inl rfl) (RfS.o hT0) ?_
      refine x_aload_n (tk K_X11_readProtocol 28 rfl) rfl rfl ?_
      refine x_iload_n (tk K_X11_readProtocol 29 rfl) rfl rfl ?_
      refine x_callV0 (As := [vI _]) (S := []) (tk K_X11_readProtocol 30 rfl) mk_X11_152 mo_X11_round (RfS.o hT0) rfl rfl (Nat.le_of_ble_eq_true rfl) hd h (fun r M3 hq => ?_)
      obtain ⟨rfl, hE, h⟩ := hq
      have hT1 := RfS.ext hT0 hE
      refine x_goto (t := 22) (tk K_X11_readProtocol 31 rfl) rfl ?_
      exact h

theorem b_X11_readProtocol_57 {X : Cx} {d kc ns : Nat} {M : Mem} {Q : Option AV → Mem → Prop} (hS : RfS M) (hd : 1 ≤ d)
    (h : ((¬ (mI M 75 4) = (-1) → Q (some (vI (mI M 75 4))) M) ∧ ((mI M 75 4) = (-1) → Cl X (d - 1) 0 0 m_X11_look [vR 75] M (fun r M1 => ∃ x1 : Int32, r = some (vI x1) ∧ Ext M M1 ∧ ((x1 = (-1) → Q (some (vI (mI M1 75 4))) M1) ∧ (¬ x1 = (-1) → Cl X (d - 1) 0 0 m_X11_bad [vR 75, vI (mI M1 75 3)] M1 (fun r M2 => r = none ∧ Ext M1 M2 ∧ Q (some (vI (mI M2 75 4))) M2))))))) :
    WA X d kc ns m_X11_readProtocol 57 [some (vR 75), none] [] M Q := by
  refine x_aload_n (tk K_X11_readProtocol 32 rfl) rfl rfl ?_
  refine x_getI (tk K_X11_readProtocol 33 rfl) f_X11_110 rfl (RfS.o hS) ?_
  refine x_iconst (tk K_X11_readProtocol 34 rfl) ic_m1 ?_
  refine x_icmp_ne (t := 81) (tk K_X11_readProtocol 35 rfl) rfl (fun hc => ?_) (fun hc => ?_)
  · have h := h.1 hc
    refine x_aload_n (tk K_X11_readProtocol 44 rfl) rfl rfl ?_
    refine x_getI (tk K_X11_readProtocol 45 rfl) f_X11_110 rfl (RfS.o hS) ?_
    exact x_ireturn (tk K_X11_readProtocol 46 rfl) rfl rfl h
  · have h := h.2 hc
    refine x_aload_n (tk K_X11_readProtocol 36 rfl) rfl rfl ?_
    refine x_callV0 (As := []) (S := []) (tk K_X11_readProtocol 37 rfl) mk_X11_113 mo_X11_look (RfS.o hS) rfl rfl (Nat.le_of_ble_eq_true rfl) hd h (fun r M1 hq => ?_)
    obtain ⟨x1, rfl, hE, h⟩ := hq
    have hT0 := RfS.ext hS hE
    refine x_iconst (tk K_X11_readProtocol 38 rfl) ic_m1 ?_
    refine x_icmp_eq (t := 81) (tk K_X11_readProtocol 39 rfl) rfl (fun hc => ?_) (fun hc => ?_)
    · have h := h.1 hc
      refine x_aload_n (tk K_X11_readProtocol 44 rfl) rfl rfl ?_
      refine x_getI (tk K_X11_readProtocol 45 rfl) f_X11_110 rfl (RfS.o hT0) ?_
      exact x_ireturn (tk K_X11_readProtocol 46 rfl) rfl rfl h
    · have h := h.2 hc
      refine x_aload_n (tk K_X11_readProtocol 40 rfl) rfl rfl ?_
      refine x_aload_n (tk K_X11_readProtocol 41 rfl) rfl rfl ?_
      refine x_getI (tk K_X11_readProtocol 42 rfl) f_X11_107 rfl (RfS.o hT0) ?_
      refine x_callV0 (As := [vI _]) (S := []) (tk K_X11_readProtocol 43 rfl) mk_X11_121 mo_X11_bad (RfS.o hT0) rfl rfl (Nat.le_of_ble_eq_true rfl) hd h (fun r M2 hq => ?_)
      obtain ⟨rfl, hE, h⟩ := hq
      have hT1 := RfS.ext hT0 hE
      refine x_aload_n (tk K_X11_readProtocol 44 rfl) rfl rfl ?_
      refine x_getI (tk K_X11_readProtocol 45 rfl) f_X11_110 rfl (RfS.o hT1) ?_
      exact x_ireturn (tk K_X11_readProtocol 46 rfl) rfl rfl h

theorem e_X11_readProtocol {X : Cx} {d kc ns : Nat} {M : Mem} {Q : Option AV → Mem → Prop} {a1 : Int32} (h : WA X d kc ns m_X11_readProtocol 0 [some (vR 75), some (vI a1)] [] M Q) : Cl X d kc ns m_X11_readProtocol [vR 75, vI a1] M Q := Cl.intro (k := 0) (by decide) rfl rfl h

-- TwoPencilsModel.round(I)V
theorem b_X11_round_0 {X : Cx} {d kc ns : Nat} {M : Mem} {Q : Option AV → Mem → Prop} {l1 : Int32} (hS : RfS M) (hd : 1 ≤ d)
    (h : Cl X (d - 1) 0 0 m_X11_look [vR 75] M (fun r M1 => ∃ x1 : Int32, r = some (vI x1) ∧ Ext M M1 ∧ ((x1 = (nI 97) → WA X d kc ns m_X11_round 17 [some (vR 75), some (vI l1), some (vI x1), none, none, none] [] M1 Q) ∧ (¬ x1 = (nI 97) → ((¬ x1 = (nI 98) → WA X d kc ns m_X11_round 28 [some (vR 75), none, none, none, none, none] [] M1 Q) ∧ (x1 = (nI 98) → WA X d kc ns m_X11_round 17 [some (vR 75), some (vI l1), some (vI x1), none, none, none] [] M1 Q)))))) :
    WA X d kc ns m_X11_round 0 [some (vR 75), some (vI l1), none, none, none, none] [] M Q := by
  refine x_aload_n (tk K_X11_round 0 rfl) rfl rfl ?_
  refine x_callV0 (As := []) (S := []) (tk K_X11_round 1 rfl) mk_X11_113 mo_X11_look (RfS.o hS) rfl rfl (Nat.le_of_ble_eq_true rfl) hd h (fun r M1 hq => ?_)
  obtain ⟨x1, rfl, hE, h⟩ := hq
  have hT0 := RfS.ext hS hE
  refine x_istore_n (L' := [some (vR _), some (vI _), some (vI _), none, none, none]) (tk K_X11_round 2 rfl) rfl rfl (Nat.le_of_ble_eq_true rfl) rfl ?_
  refine x_iload_n (tk K_X11_round 3 rfl) rfl rfl ?_
  refine x_bipush (tk K_X11_round 4 rfl) bp_97 ?_
  refine x_icmp_eq (t := 17) (tk K_X11_round 5 rfl) rfl (fun hc => ?_) (fun hc => ?_)
  · have h := h.1 hc
    exact h
  · have h := h.2 hc
    refine x_iload_n (tk K_X11_round 6 rfl) rfl rfl ?_
    refine x_bipush (tk K_X11_round 7 rfl) bp_98 ?_
    refine x_icmp_ne (t := 28) (tk K_X11_round 8 rfl) rfl (fun hc => ?_) (fun hc => ?_)
    · have h := h.1 hc
      refine x_msk [true, false, false, false, false, false] ?_
      exact h
    · have h := h.2 hc
      exact h

theorem b_X11_round_17 {X : Cx} {d kc ns : Nat} {M : Mem} {Q : Option AV → Mem → Prop} {l1 : Int32} {l2 : Int32} (hS : RfS M) (hd : 1 ≤ d)
    (h : vp_in l1 9 ∧ ((¬ (mI M 84 (ix l1)) = (nI 6) → vp_in l1 9 ∧ ∀ x1 : Int32, x1 = (((nI 6) * l1) + (mI M 84 (ix l1))) → vp_in l1 9 ∧ vp_in l1 9 ∧ ∀ M1 : Mem, M1 = sI M 84 (ix l1) ((mI M 84 (ix l1)) + (nI 1)) → vp_in x1 54 ∧ ∀ M2 : Mem, M2 = sI M1 85 (ix x1) (l2 - (nI 97)) → vp_in x1 54 ∧ ∀ M3 : Mem, M3 = sI M2 86 (ix x1) (nI 3) → ∀ M4 : Mem, M4 = sI M3 75 3 ((mI M3 75 3) + (nI 1)) → Cl X (d - 1) 0 0 m_X11_look [vR 75] M4 (fun r M5 => ∃ x2 : Int32, r = some (vI x2) ∧ Ext M4 M5 ∧ ((x2 = (nI 62) → WA X d kc ns m_X11_round 114 [some (vR 75), none, some (vI l2), some (vI x1), some (vI x2), none] [] M5 Q) ∧ (¬ x2 = (nI 62) → ((x2 = (nI 43) → WA X d kc ns m_X11_round 114 [some (vR 75), none, some (vI l2), some (vI x1), some (vI x2), none] [] M5 Q) ∧ (¬ x2 = (nI 43) → ((x2 = (nI 47) → WA X d kc ns m_X11_round 114 [some (vR 75), none, some (vI l2), some (vI x1), some (vI x2), none] [] M5 Q) ∧ (¬ x2 = (nI 47) → Q none M5)))))))) ∧ ((mI M 84 (ix l1)) = (nI 6) → WA X d kc ns m_X11_round 28 [some (vR 75), none, none, none, none, none] [] M Q))) :
    WA X d kc ns m_X11_round 17 [some (vR 75), some (vI l1), some (vI l2), none, none, none] [] M Q := by
  refine x_aload_n (tk K_X11_round 9 rfl) rfl rfl ?_
  refine x_getRc (tk K_X11_round 10 rfl) f_X11_34 rfl (RfS.o hS) (RfS.r13 hS) ?_
  refine x_iload_n (tk K_X11_round 11 rfl) rfl rfl ?_
  have hi := h.1
  have h := h.2
  refine x_iald (tk K_X11_round 12 rfl) (RfS.k13 hS) hi ?_
  refine x_bipush (tk K_X11_round 13 rfl) bp_6 ?_
  refine x_icmp_ne (t := 37) (tk K_X11_round 14 rfl) rfl (fun hc => ?_) (fun hc => ?_)
  · have h := h.1 hc
    refine x_bipush (tk K_X11_round 20 rfl) bp_6 ?_
    refine x_iload_n (tk K_X11_round 21 rfl) rfl rfl ?_
    refine x_imul (tk K_X11_round 22 rfl) ?_
    refine x_aload_n (tk K_X11_round 23 rfl) rfl rfl ?_
    refine x_getRc (tk K_X11_round 24 rfl) f_X11_34 rfl (RfS.o hS) (RfS.r13 hS) ?_
    refine x_iload_n (tk K_X11_round 25 rfl) rfl rfl ?_
    have hi := h.1
    have h := h.2
    refine x_iald (tk K_X11_round 26 rfl) (RfS.k13 hS) hi ?_
    refine x_iadd (tk K_X11_round 27 rfl) ?_
    have h := h _ rfl
    refine x_istore_n (L' := [some (vR _), some (vI _), some (vI _), some (vI _), none, none]) (tk K_X11_round 28 rfl) rfl rfl (Nat.le_of_ble_eq_true rfl) rfl ?_
    refine x_aload_n (tk K_X11_round 29 rfl) rfl rfl ?_
    refine x_getRc (tk K_X11_round 30 rfl) f_X11_34 rfl (RfS.o hS) (RfS.r13 hS) ?_
    refine x_iload_n (tk K_X11_round 31 rfl) rfl rfl ?_
    refine x_dup2 (tk K_X11_round 32 rfl) rfl rfl ?_
    have hi := h.1
    have h := h.2
    refine x_iald (tk K_X11_round 33 rfl) (RfS.k13 hS) hi ?_
    refine x_iconst (tk K_X11_round 34 rfl) ic_1 ?_
    refine x_iadd (tk K_X11_round 35 rfl) ?_
    have hi := h.1
    have h := h.2
    have h := h _ rfl
    refine x_iast (tk K_X11_round 36 rfl) (RfS.k13 hS) hi ?_
    refine x_aload_n (tk K_X11_round 37 rfl) rfl rfl ?_
    refine x_getRc (tk K_X11_round 38 rfl) f_X11_37 rfl (RfS.o hS) (RfS.r14 hS) ?_
    refine x_iload_n (tk K_X11_round 39 rfl) rfl rfl ?_
    refine x_iload_n (tk K_X11_round 40 rfl) rfl rfl ?_
    refine x_bipush (tk K_X11_round 41 rfl) bp_97 ?_
    refine x_isub (tk K_X11_round 42 rfl) ?_
    have hi := h.1
    have h := h.2
    have h := h _ rfl
    refine x_iast (tk K_X11_round 43 rfl) (RfS.k14 hS) hi ?_
    refine x_aload_n (tk K_X11_round 44 rfl) rfl rfl ?_
    refine x_getRc (tk K_X11_round 45 rfl) f_X11_40 rfl (RfS.o hS) (RfS.r15 hS) ?_
    refine x_iload_n (tk K_X11_round 46 rfl) rfl rfl ?_
    refine x_iconst (tk K_X11_round 47 rfl) ic_3 ?_
    have hi := h.1
    have h := h.2
    have h := h _ rfl
    refine x_iast (tk K_X11_round 48 rfl) (RfS.k15 hS) hi ?_
    refine x_aload_n (tk K_X11_round 49 rfl) rfl rfl ?_
    refine x_dup (tk K_X11_round 50 rfl) rfl ?_
    refine x_getI (tk K_X11_round 51 rfl) f_X11_107 rfl (RfS.o hS) ?_
    refine x_iconst (tk K_X11_round 52 rfl) ic_1 ?_
    refine x_iadd (tk K_X11_round 53 rfl) ?_
    have h := h _ rfl
    refine x_putI (tk K_X11_round 54 rfl) f_X11_107 rfl (Or.inl rfl) (RfS.o hS) ?_
    refine x_aload_n (tk K_X11_round 55 rfl) rfl rfl ?_
    refine x_callV0 (As := []) (S := []) (tk K_X11_round 56 rfl) mk_X11_113 mo_X11_look (RfS.o hS) rfl rfl (Nat.le_of_ble_eq_true rfl) hd h (fun r M5 hq => ?_)
    obtain ⟨x2, rfl, hE, h⟩ := hq
    have hT0 := RfS.ext hS hE
    have hT1 := hE.1 _ _ _ (RfS.k13 hS)
    have hT2 := hE.1 _ _ _ (RfS.k14 hS)
    have hT3 := hE.1 _ _ _ (RfS.k15 hS)
    refine x_istore (L' := [some (vR _), some (vI _), some (vI _), some (vI _), some (vI _), none]) (tk K_X11_round 57 rfl) rfl (Nat.le_of_ble_eq_true rfl) rfl ?_
    refine x_iload (tk K_X11_round 58 rfl) rfl ?_
    refine x_bipush (tk K_X11_round 59 rfl) bp_62 ?_
    refine x_icmp_eq (t := 114) (tk K_X11_round 60 rfl) rfl (fun hc => ?_) (fun hc => ?_)
    · have h := h.1 hc
      refine x_msk [true, false, true, true, true, false] ?_
      exact h
    · have h := h.2 hc
      refine x_iload (tk K_X11_round 61 rfl) rfl ?_
      refine x_bipush (tk K_X11_round 62 rfl) bp_43 ?_
      refine x_icmp_eq (t := 114) (tk K_X11_round 63 rfl) rfl (fun hc => ?_) (fun hc => ?_)
      · have h := h.1 hc
        refine x_msk [true, false, true, true, true, false] ?_
        exact h
      · have h := h.2 hc
        refine x_iload (tk K_X11_round 64 rfl) rfl ?_
        refine x_bipush (tk K_X11_round 65 rfl) bp_47 ?_
        refine x_icmp_eq (t := 114) (tk K_X11_round 66 rfl) rfl (fun hc => ?_) (fun hc => ?_)
        · have h := h.1 hc
          refine x_msk [true, false, true, true, true, false] ?_
          exact h
        · have h := h.2 hc
          exact x_return (tk K_X11_round 67 rfl) rfl h
  · have h := h.2 hc
    refine x_msk [true, false, false, false, false, false] ?_
    exact h

theorem b_X11_round_28 {X : Cx} {d kc ns : Nat} {M : Mem} {Q : Option AV → Mem → Prop} (hS : RfS M) (hd : 1 ≤ d)
    (h : Cl X (d - 1) 0 0 m_X11_bad [vR 75, vI (mI M 75 3)] M (fun r M1 => r = none ∧ Ext M M1 ∧ Q none M1)) :
    WA X d kc ns m_X11_round 28 [some (vR 75), none, none, none, none, none] [] M Q := by
  refine x_aload_n (tk K_X11_round 15 rfl) rfl rfl ?_
  refine x_aload_n (tk K_X11_round 16 rfl) rfl rfl ?_
  refine x_getI (tk K_X11_round 17 rfl) f_X11_107 rfl (RfS.o hS) ?_
  refine x_callV0 (As := [vI _]) (S := []) (tk K_X11_round 18 rfl) mk_X11_121 mo_X11_bad (RfS.o hS) rfl rfl (Nat.le_of_ble_eq_true rfl) hd h (fun r M1 hq => ?_)
  obtain ⟨rfl, hE, h⟩ := hq
  have hT0 := RfS.ext hS hE
  exact x_return (tk K_X11_round 19 rfl) rfl h

theorem b_X11_round_114 {X : Cx} {d kc ns : Nat} {M : Mem} {Q : Option AV → Mem → Prop} {l2 : Int32} {l3 : Int32} {l4 : Int32} (hS : RfS M)
    (h : ((¬ l4 = (nI 62) → ((¬ l4 = (nI 43) → WA X d kc ns m_X11_round 142 [some (vR 75), none, some (vI l2), none, none, none] [vI (nI 2), vI l3, vR 86] M Q) ∧ (l4 = (nI 43) → WA X d kc ns m_X11_round 142 [some (vR 75), none, some (vI l2), none, none, none] [vI (nI 1), vI l3, vR 86] M Q))) ∧ (l4 = (nI 62) → WA X d kc ns m_X11_round 142 [some (vR 75), none, some (vI l2), none, none, none] [vI (nI 0), vI l3, vR 86] M Q))) :
    WA X d kc ns m_X11_round 114 [some (vR 75), none, some (vI l2), some (vI l3), some (vI l4), none] [] M Q := by
  refine x_aload_n (tk K_X11_round 68 rfl) rfl rfl ?_
  refine x_getRc (tk K_X11_round 69 rfl) f_X11_40 rfl (RfS.o hS) (RfS.r15 hS) ?_
  refine x_iload_n (tk K_X11_round 70 rfl) rfl rfl ?_
  refine x_iload (tk K_X11_round 71 rfl) rfl ?_
  refine x_bipush (tk K_X11_round 72 rfl) bp_62 ?_
  refine x_icmp_ne (t := 130) (tk K_X11_round 73 rfl) rfl (fun hc => ?_) (fun hc => ?_)
  · have h := h.1 hc
    refine x_iload (tk K_X11_round 76 rfl) rfl ?_
    refine x_bipush (tk K_X11_round 77 rfl) bp_43 ?_
    refine x_icmp_ne (t := 141) (tk K_X11_round 78 rfl) rfl (fun hc => ?_) (fun hc => ?_)
    · have h := h.1 hc
      refine x_iconst (tk K_X11_round 81 rfl) ic_2 ?_
      refine x_msk [true, false, true, false, false, false] ?_
      exact h
    · have h := h.2 hc
      refine x_iconst (tk K_X11_round 79 rfl) ic_1 ?_
      refine x_goto (t := 142) (tk K_X11_round 80 rfl) rfl ?_
      refine x_msk [true, false, true, false, false, false] ?_
      exact h
  · have h := h.2 hc
    refine x_iconst (tk K_X11_round 74 rfl) ic_0 ?_
    refine x_goto (t := 142) (tk K_X11_round 75 rfl) rfl ?_
    refine x_msk [true, false, true, false, false, false] ?_
    exact h

theorem b_X11_round_142 {X : Cx} {d kc ns : Nat} {M : Mem} {Q : Option AV → Mem → Prop} {l2 : Int32} {s0 : Nat} {s1 : Int32} {s2 : Int32} (hS : RfS M) (hd : 1 ≤ d)
    (h : ∃ n1 : Nat, isK M s0 14 n1 ∧ vp_in s1 n1 ∧ ∀ M1 : Mem, M1 = sI M s0 (ix s1) s2 → ∀ M2 : Mem, M2 = sI M1 75 3 ((mI M1 75 3) + (nI 1)) → Cl X (d - 1) 0 0 m_X11_look [vR 75] M2 (fun r M3 => ∃ x1 : Int32, r = some (vI x1) ∧ Ext M2 M3 ∧ ((x1 = (nI 97) → WA X d kc ns m_X11_round 173 [some (vR 75), none, some (vI l2), none, none, some (vI x1)] [] M3 Q) ∧ (¬ x1 = (nI 97) → ((¬ x1 = (nI 98) → WA X d kc ns m_X11_round 179 [some (vR 75), none, none, none, none, none] [] M3 Q) ∧ (x1 = (nI 98) → WA X d kc ns m_X11_round 173 [some (vR 75), none, some (vI l2), none, none, some (vI x1)] [] M3 Q)))))) :
    WA X d kc ns m_X11_round 142 [some (vR 75), none, some (vI l2), none, none, none] [vI s2, vI s1, vR s0] M Q := by
  obtain ⟨n1, hA_n1, h⟩ := h
  have hi := h.1
  have h := h.2
  have h := h _ rfl
  refine x_iast (tk K_X11_round 82 rfl) hA_n1 hi ?_
  refine x_aload_n (tk K_X11_round 83 rfl) rfl rfl ?_
  refine x_dup (tk K_X11_round 84 rfl) rfl ?_
  refine x_getI (tk K_X11_round 85 rfl) f_X11_107 rfl (RfS.o hS) ?_
  refine x_iconst (tk K_X11_round 86 rfl) ic_1 ?_
  refine x_iadd (tk K_X11_round 87 rfl) ?_
  have h := h _ rfl
  refine x_putI (tk K_X11_round 88 rfl) f_X11_107 rfl (Or.inl rfl) (RfS.o hS) ?_
  refine x_aload_n (tk K_X11_round 89 rfl) rfl rfl ?_
  refine x_callV0 (As := []) (S := []) (tk K_X11_round 90 rfl) mk_X11_113 mo_X11_look (RfS.o hS) rfl rfl (Nat.le_of_ble_eq_true rfl) hd h (fun r M3 hq => ?_)
  obtain ⟨x1, rfl, hE, h⟩ := hq
  have hT0 := RfS.ext hS hE
  have hT1 := hE.1 _ _ _ hA_n1
  refine x_istore (L' := [some (vR _), none, some (vI _), none, none, some (vI _)]) (tk K_X11_round 91 rfl) rfl (Nat.le_of_ble_eq_true rfl) rfl ?_
  refine x_iload (tk K_X11_round 92 rfl) rfl ?_
  refine x_bipush (tk K_X11_round 93 rfl) bp_97 ?_
  refine x_icmp_eq (t := 173) (tk K_X11_round 94 rfl) rfl (fun hc => ?_) (fun hc => ?_)
  · have h := h.1 hc
    exact h
  · have h := h.2 hc
    refine x_iload (tk K_X11_round 95 rfl) rfl ?_
    refine x_bipush (tk K_X11_round 96 rfl) bp_98 ?_
    refine x_icmp_ne (t := 179) (tk K_X11_round 97 rfl) rfl (fun hc => ?_) (fun hc => ?_)
    · have h := h.1 hc
      refine x_msk [true, false, false, false, false, false] ?_
      exact h
    · have h := h.2 hc
      exact h

theorem b_X11_round_173 {X : Cx} {d kc ns : Nat} {M : Mem} {Q : Option AV → Mem → Prop} {l2 : Int32} {l5 : Int32} (hS : RfS M)
    (h : ((¬ l5 = l2 → WA X d kc ns m_X11_round 187 [some (vR 75), none, none, none, none, none] [] M Q) ∧ (l5 = l2 → WA X d kc ns m_X11_round 179 [some (vR 75), none, none, none, none, none] [] M Q))) :
    WA X d kc ns m_X11_round 173 [some (vR 75), none, some (vI l2), none, none, some (vI l5)] [] M Q := by
  refine x_iload (tk K_X11_round 98 rfl) rfl ?_
  refine x_iload_n (tk K_X11_round 99 rfl) rfl rfl ?_
  refine x_icmp_ne (t := 187) (tk K_X11_round 100 rfl) rfl (fun hc => ?_) (fun hc => ?_)
  · have h := h.1 hc
    refine x_msk [true, false, false, false, false, false] ?_
    exact h
  · have h := h.2 hc
    refine x_msk [true, false, false, false, false, false] ?_
    exact h

theorem b_X11_round_179 {X : Cx} {d kc ns : Nat} {M : Mem} {Q : Option AV → Mem → Prop} (hS : RfS M) (hd : 1 ≤ d)
    (h : Cl X (d - 1) 0 0 m_X11_bad [vR 75, vI (mI M 75 3)] M (fun r M1 => r = none ∧ Ext M M1 ∧ WA X d kc ns m_X11_round 187 [some (vR 75), none, none, none, none, none] [] M1 Q)) :
    WA X d kc ns m_X11_round 179 [some (vR 75), none, none, none, none, none] [] M Q := by
  refine x_aload_n (tk K_X11_round 101 rfl) rfl rfl ?_
  refine x_aload_n (tk K_X11_round 102 rfl) rfl rfl ?_
  refine x_getI (tk K_X11_round 103 rfl) f_X11_107 rfl (RfS.o hS) ?_
  refine x_callV0 (As := [vI _]) (S := []) (tk K_X11_round 104 rfl) mk_X11_121 mo_X11_bad (RfS.o hS) rfl rfl (Nat.le_of_ble_eq_true rfl) hd h (fun r M1 hq => ?_)
  obtain ⟨rfl, hE, h⟩ := hq
  have hT0 := RfS.ext hS hE
  exact h

theorem b_X11_round_187 {X : Cx} {d kc ns : Nat} {M : Mem} {Q : Option AV → Mem → Prop} (hS : RfS M)
    (h : ∀ M1 : Mem, M1 = sI M 75 3 ((mI M 75 3) + (nI 1)) → Q none M1) :
    WA X d kc ns m_X11_round 187 [some (vR 75), none, none, none, none, none] [] M Q := by
  refine x_aload_n (tk K_X11_round 105 rfl) rfl rfl ?_
  refine x_dup (tk K_X11_round 106 rfl) rfl ?_
  refine x_getI (tk K_X11_round 107 rfl) f_X11_107 rfl (RfS.o hS) ?_
  refine x_iconst (tk K_X11_round 108 rfl) ic_1 ?_
  refine x_iadd (tk K_X11_round 109 rfl) ?_
  have h := h _ rfl
  refine x_putI (tk K_X11_round 110 rfl) f_X11_107 rfl (Or.inl rfl) (RfS.o hS) ?_
  exact x_return (tk K_X11_round 111 rfl) rfl h

theorem e_X11_round {X : Cx} {d kc ns : Nat} {M : Mem} {Q : Option AV → Mem → Prop} {a1 : Int32} (h : WA X d kc ns m_X11_round 0 [some (vR 75), some (vI a1), none, none, none, none] [] M Q) : Cl X d kc ns m_X11_round [vR 75, vI a1] M Q := Cl.intro (k := 4) (by decide) rfl rfl h

-- TwoPencilsModel.fault(I)I
theorem b_X11_fault_0 {X : Cx} {d kc ns : Nat} {M : Mem} {Q : Option AV → Mem → Prop} {l1 : Int32} (hS : RfS M) (hd : 1 ≤ d)
    (h : ((¬ l1 = nI 0 → ((¬ l1 = (nI 1) → Q (some (vI (-2))) M) ∧ (l1 = (nI 1) → Cl X (d - 1) 0 0 m_X11_readProtocol [vR 75, vI (nI 8)] M (fun r M1 => ∃ x1 : Int32, r = some (vI x1) ∧ Ext M M1 ∧ Q (some (vI x1)) M1)))) ∧ (l1 = nI 0 → Cl X (d - 1) 0 0 m_X11_readLand [vR 75, vI (nI 6)] M (fun r M2 => ∃ x2 : Int32, r = some (vI x2) ∧ Ext M M2 ∧ Q (some (vI x2)) M2)))) :
    WA X d kc ns m_X11_fault 0 [some (vR 75), some (vI l1)] [] M Q := by
  refine x_iload_n (tk K_X11_fault 0 rfl) rfl rfl ?_
  refine x_if_ne (t := 13) (tk K_X11_fault 1 rfl) rfl (fun hc => ?_) (fun hc => ?_)
  · have h := h.1 hc
    refine x_iload_n (tk K_X11_fault 6 rfl) rfl rfl ?_
    refine x_iconst (tk K_X11_fault 7 rfl) ic_1 ?_
    refine x_icmp_ne (t := 27) (tk K_X11_fault 8 rfl) rfl (fun hc => ?_) (fun hc => ?_)
    · have h := h.1 hc
      refine x_bipush (tk K_X11_fault 13 rfl) bp_m2 ?_
      exact x_ireturn (tk K_X11_fault 14 rfl) rfl rfl h
    · have h := h.2 hc
      refine x_aload_n (tk K_X11_fault 9 rfl) rfl rfl ?_
      refine x_bipush (tk K_X11_fault 10 rfl) bp_8 ?_
      refine x_callV0 (As := [vI _]) (S := []) (tk K_X11_fault 11 rfl) mk_X11_159 mo_X11_readProtocol (RfS.o hS) rfl rfl (Nat.le_of_ble_eq_true rfl) hd h (fun r M1 hq => ?_)
      obtain ⟨x1, rfl, hE, h⟩ := hq
      have hT0 := RfS.ext hS hE
      refine x_goto (t := 29) (tk K_X11_fault 12 rfl) rfl ?_
      exact x_ireturn (tk K_X11_fault 14 rfl) rfl rfl h
  · have h := h.2 hc
    refine x_aload_n (tk K_X11_fault 2 rfl) rfl rfl ?_
    refine x_bipush (tk K_X11_fault 3 rfl) bp_6 ?_
    refine x_callV0 (As := [vI _]) (S := []) (tk K_X11_fault 4 rfl) mk_X11_155 mo_X11_readLand (RfS.o hS) rfl rfl (Nat.le_of_ble_eq_true rfl) hd h (fun r M2 hq => ?_)
    obtain ⟨x2, rfl, hE, h⟩ := hq
    have hT1 := RfS.ext hS hE
    refine x_goto (t := 29) (tk K_X11_fault 5 rfl) rfl ?_
    exact x_ireturn (tk K_X11_fault 14 rfl) rfl rfl h

theorem e_X11_fault {X : Cx} {d kc ns : Nat} {M : Mem} {Q : Option AV → Mem → Prop} {a1 : Int32} (h : WA X d kc ns m_X11_fault 0 [some (vR 75), some (vI a1)] [] M Q) : Cl X d kc ns m_X11_fault [vR 75, vI a1] M Q := Cl.intro (k := 0) (by decide) rfl rfl h

-- TwoPencilsModel.land()I
theorem b_X11_land_0 {X : Cx} {d kc ns : Nat} {M : Mem} {Q : Option AV → Mem → Prop} (hS : RfS M) (hd : 1 ≤ d)
    (h : (((mI M 75 12) = (nI 6) → Q (some (vI (-1))) M) ∧ (¬ (mI M 75 12) = (nI 6) → Cl X (d - 1) 0 0 m_X11_readLand [vR 75, vI (mI M 75 12)] M (fun r M1 => ∃ x1 : Int32, r = some (vI x1) ∧ Ext M M1 ∧ ((x1 = (-1) → ∀ M2 : Mem, M2 = sI M1 75 2 (nI 0) → ∀ M3 : Mem, M3 = sI M2 75 12 ((mI M2 75 12) + (nI 1)) → Q (some (vI ((mI M3 75 12) - (nI 1)))) M3) ∧ (¬ x1 = (-1) → Q (some (vI (-1))) M1)))))) :
    WA X d kc ns m_X11_land 0 [some (vR 75)] [] M Q := by
  refine x_aload_n (tk K_X11_land 0 rfl) rfl rfl ?_
  refine x_getI (tk K_X11_land 1 rfl) f_X11_162 rfl (RfS.o hS) ?_
  refine x_bipush (tk K_X11_land 2 rfl) bp_6 ?_
  refine x_icmp_eq (t := 21) (tk K_X11_land 3 rfl) rfl (fun hc => ?_) (fun hc => ?_)
  · have h := h.1 hc
    refine x_iconst (tk K_X11_land 10 rfl) ic_m1 ?_
    exact x_ireturn (tk K_X11_land 11 rfl) rfl rfl h
  · have h := h.2 hc
    refine x_aload_n (tk K_X11_land 4 rfl) rfl rfl ?_
    refine x_aload_n (tk K_X11_land 5 rfl) rfl rfl ?_
    refine x_getI (tk K_X11_land 6 rfl) f_X11_162 rfl (RfS.o hS) ?_
    refine x_callV0 (As := [vI _]) (S := []) (tk K_X11_land 7 rfl) mk_X11_155 mo_X11_readLand (RfS.o hS) rfl rfl (Nat.le_of_ble_eq_true rfl) hd h (fun r M1 hq => ?_)
    obtain ⟨x1, rfl, hE, h⟩ := hq
    have hT0 := RfS.ext hS hE
    refine x_iconst (tk K_X11_land 8 rfl) ic_m1 ?_
    refine x_icmp_eq (t := 23) (tk K_X11_land 9 rfl) rfl (fun hc => ?_) (fun hc => ?_)
    · have h := h.1 hc
      refine x_aload_n (tk K_X11_land 12 rfl) rfl rfl ?_
      refine x_iconst (tk K_X11_land 13 rfl) ic_0 ?_
      have h := h _ rfl
      refine x_putI (tk K_X11_land 14 rfl) f_X11_104 rfl (Or.inl rfl) (RfS.o hT0) ?_
      refine x_aload_n (tk K_X11_land 15 rfl) rfl rfl ?_
      refine x_dup (tk K_X11_land 16 rfl) rfl ?_
      refine x_getI (tk K_X11_land 17 rfl) f_X11_162 rfl (RfS.o hT0) ?_
      refine x_iconst (tk K_X11_land 18 rfl) ic_1 ?_
      refine x_iadd (tk K_X11_land 19 rfl) ?_
      have h := h _ rfl
      refine x_putI (tk K_X11_land 20 rfl) f_X11_162 rfl (Or.inl rfl) (RfS.o hT0) ?_
      refine x_aload_n (tk K_X11_land 21 rfl) rfl rfl ?_
      refine x_getI (tk K_X11_land 22 rfl) f_X11_162 rfl (RfS.o hT0) ?_
      refine x_iconst (tk K_X11_land 23 rfl) ic_1 ?_
      refine x_isub (tk K_X11_land 24 rfl) ?_
      exact x_ireturn (tk K_X11_land 25 rfl) rfl rfl h
    · have h := h.2 hc
      refine x_iconst (tk K_X11_land 10 rfl) ic_m1 ?_
      exact x_ireturn (tk K_X11_land 11 rfl) rfl rfl h

theorem e_X11_land {X : Cx} {d kc ns : Nat} {M : Mem} {Q : Option AV → Mem → Prop} (h : WA X d kc ns m_X11_land 0 [some (vR 75)] [] M Q) : Cl X d kc ns m_X11_land [vR 75] M Q := Cl.intro (k := 0) (by decide) rfl rfl h

-- TwoPencilsModel.protocol()I
theorem b_X11_protocol_0 {X : Cx} {d kc ns : Nat} {M : Mem} {Q : Option AV → Mem → Prop} (hS : RfS M) (hd : 1 ≤ d)
    (h : (((mI M 75 16) = (nI 8) → Q (some (vI (-1))) M) ∧ (¬ (mI M 75 16) = (nI 8) → Cl X (d - 1) 0 0 m_X11_readProtocol [vR 75, vI (mI M 75 16)] M (fun r M1 => ∃ x1 : Int32, r = some (vI x1) ∧ Ext M M1 ∧ ((x1 = (-1) → ∀ M2 : Mem, M2 = sI M1 75 2 (nI 0) → ∀ M3 : Mem, M3 = sI M2 75 16 ((mI M2 75 16) + (nI 1)) → Q (some (vI ((mI M3 75 16) - (nI 1)))) M3) ∧ (¬ x1 = (-1) → Q (some (vI (-1))) M1)))))) :
    WA X d kc ns m_X11_protocol 0 [some (vR 75)] [] M Q := by
  refine x_aload_n (tk K_X11_protocol 0 rfl) rfl rfl ?_
  refine x_getI (tk K_X11_protocol 1 rfl) f_X11_165 rfl (RfS.o hS) ?_
  refine x_bipush (tk K_X11_protocol 2 rfl) bp_8 ?_
  refine x_icmp_eq (t := 21) (tk K_X11_protocol 3 rfl) rfl (fun hc => ?_) (fun hc => ?_)
  · have h := h.1 hc
    refine x_iconst (tk K_X11_protocol 10 rfl) ic_m1 ?_
    exact x_ireturn (tk K_X11_protocol 11 rfl) rfl rfl h
  · have h := h.2 hc
    refine x_aload_n (tk K_X11_protocol 4 rfl) rfl rfl ?_
    refine x_aload_n (tk K_X11_protocol 5 rfl) rfl rfl ?_
    refine x_getI (tk K_X11_protocol 6 rfl) f_X11_165 rfl (RfS.o hS) ?_
    refine x_callV0 (As := [vI _]) (S := []) (tk K_X11_protocol 7 rfl) mk_X11_159 mo_X11_readProtocol (RfS.o hS) rfl rfl (Nat.le_of_ble_eq_true rfl) hd h (fun r M1 hq => ?_)
    obtain ⟨x1, rfl, hE, h⟩ := hq
    have hT0 := RfS.ext hS hE
    refine x_iconst (tk K_X11_protocol 8 rfl) ic_m1 ?_
    refine x_icmp_eq (t := 23) (tk K_X11_protocol 9 rfl) rfl (fun hc => ?_) (fun hc => ?_)
    · have h := h.1 hc
      refine x_aload_n (tk K_X11_protocol 12 rfl) rfl rfl ?_
      refine x_iconst (tk K_X11_protocol 13 rfl) ic_0 ?_
      have h := h _ rfl
      refine x_putI (tk K_X11_protocol 14 rfl) f_X11_104 rfl (Or.inl rfl) (RfS.o hT0) ?_
      refine x_aload_n (tk K_X11_protocol 15 rfl) rfl rfl ?_
      refine x_dup (tk K_X11_protocol 16 rfl) rfl ?_
      refine x_getI (tk K_X11_protocol 17 rfl) f_X11_165 rfl (RfS.o hT0) ?_
      refine x_iconst (tk K_X11_protocol 18 rfl) ic_1 ?_
      refine x_iadd (tk K_X11_protocol 19 rfl) ?_
      have h := h _ rfl
      refine x_putI (tk K_X11_protocol 20 rfl) f_X11_165 rfl (Or.inl rfl) (RfS.o hT0) ?_
      refine x_aload_n (tk K_X11_protocol 21 rfl) rfl rfl ?_
      refine x_getI (tk K_X11_protocol 22 rfl) f_X11_165 rfl (RfS.o hT0) ?_
      refine x_iconst (tk K_X11_protocol 23 rfl) ic_1 ?_
      refine x_isub (tk K_X11_protocol 24 rfl) ?_
      exact x_ireturn (tk K_X11_protocol 25 rfl) rfl rfl h
    · have h := h.2 hc
      refine x_iconst (tk K_X11_protocol 10 rfl) ic_m1 ?_
      exact x_ireturn (tk K_X11_protocol 11 rfl) rfl rfl h

theorem e_X11_protocol {X : Cx} {d kc ns : Nat} {M : Mem} {Q : Option AV → Mem → Prop} (h : WA X d kc ns m_X11_protocol 0 [some (vR 75)] [] M Q) : Cl X d kc ns m_X11_protocol [vR 75] M Q := Cl.intro (k := 0) (by decide) rfl rfl h

-- TwoPencilsModel.isLand(I)Z
theorem b_X11_isLand_0 {X : Cx} {d kc ns : Nat} {M : Mem} {Q : Option AV → Mem → Prop} {l1 : Int32} (hS : RfS M) (hd : 1 ≤ d)
    (h : Cl X (d - 1) 0 0 m_X11_in [vI l1, vI (nI 0), vI ((mI M 75 12) - (nI 1))] M (fun r M1 => ∃ x1 : Int32, r = some (vI x1) ∧ Ext M M1 ∧ (isB x1 ∧ Q (some (vI x1)) M1))) :
    WA X d kc ns m_X11_isLand 0 [some (vR 75), some (vI l1)] [] M Q := by
  refine x_iload_n (tk K_X11_isLand 0 rfl) rfl rfl ?_
  refine x_iconst (tk K_X11_isLand 1 rfl) ic_0 ?_
  refine x_aload_n (tk K_X11_isLand 2 rfl) rfl rfl ?_
  refine x_getI (tk K_X11_isLand 3 rfl) f_X11_162 rfl (RfS.o hS) ?_
  refine x_iconst (tk K_X11_isLand 4 rfl) ic_1 ?_
  refine x_isub (tk K_X11_isLand 5 rfl) ?_
  refine x_callS0 (As := [vI _, vI _, vI _]) (S := []) (tk K_X11_isLand 6 rfl) mk_X11_125 mo_X11_in rfl rfl (Nat.le_of_ble_eq_true rfl) hd h (fun r M1 hq => ?_)
  obtain ⟨x1, rfl, hE, h⟩ := hq
  have hT0 := RfS.ext hS hE
  exact x_ireturn (tk K_X11_isLand 7 rfl) rfl (fitZ h.1).1 h.2

theorem e_X11_isLand {X : Cx} {d kc ns : Nat} {M : Mem} {Q : Option AV → Mem → Prop} {a1 : Int32} (h : WA X d kc ns m_X11_isLand 0 [some (vR 75), some (vI a1)] [] M Q) : Cl X d kc ns m_X11_isLand [vR 75, vI a1] M Q := Cl.intro (k := 0) (by decide) rfl rfl h

-- TwoPencilsModel.isParish(II)Z
theorem b_X11_isParish_0 {X : Cx} {d kc ns : Nat} {M : Mem} {Q : Option AV → Mem → Prop} {l1 : Int32} {l2 : Int32} (hS : RfS M) (hd : 1 ≤ d)
    (h : Cl X (d - 1) 0 0 m_X11_isLand [vR 75, vI l1] M (fun r M1 => ∃ x1 : Int32, r = some (vI x1) ∧ Ext M M1 ∧ ((x1 = nI 0 → Q (some (vI (nI 0))) M1) ∧ (¬ x1 = nI 0 → vp_in l1 7 ∧ Cl X (d - 1) 0 0 m_X11_in [vI l2, vI (nI 0), vI ((mI M1 77 (ix l1)) - (nI 1))] M1 (fun r M2 => ∃ x2 : Int32, r = some (vI x2) ∧ Ext M1 M2 ∧ ((x2 = nI 0 → Q (some (vI (nI 0))) M2) ∧ (¬ x2 = nI 0 → Q (some (vI (nI 1))) M2))))))) :
    WA X d kc ns m_X11_isParish 0 [some (vR 75), some (vI l1), some (vI l2)] [] M Q := by
  refine x_aload_n (tk K_X11_isParish 0 rfl) rfl rfl ?_
  refine x_iload_n (tk K_X11_isParish 1 rfl) rfl rfl ?_
  refine x_callV0 (As := [vI _]) (S := []) (tk K_X11_isParish 2 rfl) mk_X11_168 mo_X11_isLand (RfS.o hS) rfl rfl (Nat.le_of_ble_eq_true rfl) hd h (fun r M1 hq => ?_)
  obtain ⟨x1, rfl, hE, h⟩ := hq
  have hT0 := RfS.ext hS hE
  refine x_if_eq (t := 28) (tk K_X11_isParish 3 rfl) rfl (fun hc => ?_) (fun hc => ?_)
  · have h := h.1 hc
    refine x_iconst (tk K_X11_isParish 16 rfl) ic_0 ?_
    exact x_ireturn (tk K_X11_isParish 17 rfl) rfl (fitZ (Or.inl rfl)).1 h
  · have h := h.2 hc
    refine x_iload_n (tk K_X11_isParish 4 rfl) rfl rfl ?_
    refine x_iconst (tk K_X11_isParish 5 rfl) ic_0 ?_
    refine x_aload_n (tk K_X11_isParish 6 rfl) rfl rfl ?_
    refine x_getRc (tk K_X11_isParish 7 rfl) f_X11_13 rfl (RfS.o hT0) (RfS.r5 hT0) ?_
    refine x_iload_n (tk K_X11_isParish 8 rfl) rfl rfl ?_
    have hi := h.1
    have h := h.2
    refine x_iald (tk K_X11_isParish 9 rfl) (RfS.k5 hT0) hi ?_
    refine x_iconst (tk K_X11_isParish 10 rfl) ic_1 ?_
    refine x_isub (tk K_X11_isParish 11 rfl) ?_
    refine x_callS0 (As := [vI _, vI _, vI _]) (S := []) (tk K_X11_isParish 12 rfl) mk_X11_125 mo_X11_in rfl rfl (Nat.le_of_ble_eq_true rfl) hd h (fun r M2 hq => ?_)
    obtain ⟨x2, rfl, hE, h⟩ := hq
    have hT1 := RfS.ext hT0 hE
    have hT2 := hE.1 _ _ _ (RfS.k5 hT0)
    refine x_if_eq (t := 28) (tk K_X11_isParish 13 rfl) rfl (fun hc => ?_) (fun hc => ?_)
    · have h := h.1 hc
      refine x_iconst (tk K_X11_isParish 16 rfl) ic_0 ?_
      exact x_ireturn (tk K_X11_isParish 17 rfl) rfl (fitZ (Or.inl rfl)).1 h
    · have h := h.2 hc
      refine x_iconst (tk K_X11_isParish 14 rfl) ic_1 ?_
      refine x_goto (t := 29) (tk K_X11_isParish 15 rfl) rfl ?_
      exact x_ireturn (tk K_X11_isParish 17 rfl) rfl (fitZ (Or.inr rfl)).1 h

theorem e_X11_isParish {X : Cx} {d kc ns : Nat} {M : Mem} {Q : Option AV → Mem → Prop} {a1 : Int32} {a2 : Int32} (h : WA X d kc ns m_X11_isParish 0 [some (vR 75), some (vI a1), some (vI a2)] [] M Q) : Cl X d kc ns m_X11_isParish [vR 75, vI a1, vI a2] M Q := Cl.intro (k := 0) (by decide) rfl rfl h

-- TwoPencilsModel.isParty(I)Z
theorem b_X11_isParty_0 {X : Cx} {d kc ns : Nat} {M : Mem} {Q : Option AV → Mem → Prop} {l0 : Int32} (hd : 1 ≤ d)
    (h : Cl X (d - 1) 0 0 m_X11_in [vI l0, vI (nI 0), vI (nI 2)] M (fun r M1 => ∃ x1 : Int32, r = some (vI x1) ∧ Ext M M1 ∧ (isB x1 ∧ Q (some (vI x1)) M1))) :
    WA X d kc ns m_X11_isParty 0 [some (vI l0)] [] M Q := by
  refine x_iload_n (tk K_X11_isParty 0 rfl) rfl rfl ?_
  refine x_iconst (tk K_X11_isParty 1 rfl) ic_0 ?_
  refine x_iconst (tk K_X11_isParty 2 rfl) ic_2 ?_
  refine x_callS0 (As := [vI _, vI _, vI _]) (S := []) (tk K_X11_isParty 3 rfl) mk_X11_125 mo_X11_in rfl rfl (Nat.le_of_ble_eq_true rfl) hd h (fun r M1 hq => ?_)
  obtain ⟨x1, rfl, hE, h⟩ := hq
  exact x_ireturn (tk K_X11_isParty 4 rfl) rfl (fitZ h.1).1 h.2

theorem e_X11_isParty {X : Cx} {d kc ns : Nat} {M : Mem} {Q : Option AV → Mem → Prop} {a0 : Int32} (h : WA X d kc ns m_X11_isParty 0 [some (vI a0)] [] M Q) : Cl X d kc ns m_X11_isParty [vI a0] M Q := Cl.intro (k := 0) (by decide) rfl rfl h

-- TwoPencilsModel.allVotes(II)I
theorem b_X11_allVotes_0 {X : Cx} {d kc ns : Nat} {M : Mem} {Q : Option AV → Mem → Prop} {l1 : Int32} {l2 : Int32} (hS : RfS M)
    (h : WA X d kc ns m_X11_allVotes 5 [some (vR 75), some (vI l1), some (vI l2), some (vI (nI 0)), some (vI (nI 0))] [] M Q) :
    WA X d kc ns m_X11_allVotes 0 [some (vR 75), some (vI l1), some (vI l2), none, none] [] M Q := by
  refine x_iconst (tk K_X11_allVotes 0 rfl) ic_0 ?_
  refine x_istore_n (L' := [some (vR _), some (vI _), some (vI _), some (vI _), none]) (tk K_X11_allVotes 1 rfl) rfl rfl (Nat.le_of_ble_eq_true rfl) rfl ?_
  refine x_iconst (tk K_X11_allVotes 2 rfl) ic_0 ?_
  refine x_istore (L' := [some (vR _), some (vI _), some (vI _), some (vI _), some (vI _)]) (tk K_X11_allVotes 3 rfl) rfl (Nat.le_of_ble_eq_true rfl) rfl ?_
  exact h

theorem b_X11_allVotes_5 {X : Cx} {d kc ns : Nat} {M : Mem} {Q : Option AV → Mem → Prop} {l1 : Int32} {l2 : Int32} {l3 : Int32} {l4 : Int32} (hS : RfS M) (hd : 1 ≤ d)
    (h : vp_in l1 7 ∧ (((mI M 77 (ix l1)) ≤ l4 → Q (some (vI l3)) M) ∧ (¬ (mI M 77 (ix l1)) ≤ l4 → Cl X (d - 1) 0 0 m_X11_voteAt [vI l1, vI l4, vI l2] M (fun r M1 => ∃ x1 : Int32, r = some (vI x1) ∧ Ext M M1 ∧ vp_in x1 189 ∧ ∀ x2 : Int32, x2 = (l3 + (mI M1 81 (ix x1))) → WA X d kc ns m_X11_allVotes 5 [some (vR 75), some (vI l1), some (vI l2), some (vI x2), some (vI (l4 + (nI 1)))] [] M1 Q)))) :
    WA X d kc ns m_X11_allVotes 5 [some (vR 75), some (vI l1), some (vI l2), some (vI l3), some (vI l4)] [] M Q := by
  refine x_iload (tk K_X11_allVotes 4 rfl) rfl ?_
  refine x_aload_n (tk K_X11_allVotes 5 rfl) rfl rfl ?_
  refine x_getRc (tk K_X11_allVotes 6 rfl) f_X11_13 rfl (RfS.o hS) (RfS.r5 hS) ?_
  refine x_iload_n (tk K_X11_allVotes 7 rfl) rfl rfl ?_
  have hi := h.1
  have h := h.2
  refine x_iald (tk K_X11_allVotes 8 rfl) (RfS.k5 hS) hi ?_
  refine x_icmp_ge (t := 37) (tk K_X11_allVotes 9 rfl) rfl (fun hc => ?_) (fun hc => ?_)
  · have h := h.1 hc
    refine x_iload_n (tk K_X11_allVotes 22 rfl) rfl rfl ?_
    exact x_ireturn (tk K_X11_allVotes 23 rfl) rfl rfl h
  · have h := h.2 hc
    refine x_iload_n (tk K_X11_allVotes 10 rfl) rfl rfl ?_
    refine x_aload_n (tk K_X11_allVotes 11 rfl) rfl rfl ?_
    refine x_getRc (tk K_X11_allVotes 12 rfl) f_X11_25 rfl (RfS.o hS) (RfS.r9 hS) ?_
    refine x_iload_n (tk K_X11_allVotes 13 rfl) rfl rfl ?_
    refine x_iload (tk K_X11_allVotes 14 rfl) rfl ?_
    refine x_iload_n (tk K_X11_allVotes 15 rfl) rfl rfl ?_
    refine x_callS0 (As := [vI _, vI _, vI _]) (S := [vR _, vI _]) (tk K_X11_allVotes 16 rfl) mk_X11_129 mo_X11_voteAt rfl rfl (Nat.le_of_ble_eq_true rfl) hd h (fun r M1 hq => ?_)
    obtain ⟨x1, rfl, hE, h⟩ := hq
    have hT0 := RfS.ext hS hE
    have hT1 := hE.1 _ _ _ (RfS.k5 hS)
    have hT2 := hE.1 _ _ _ (RfS.k9 hS)
    have hi := h.1
    have h := h.2
    refine x_iald (tk K_X11_allVotes 17 rfl) hT2 hi ?_
    refine x_iadd (tk K_X11_allVotes 18 rfl) ?_
    have h := h _ rfl
    refine x_istore_n (L' := [some (vR _), some (vI _), some (vI _), some (vI _), some (vI _)]) (tk K_X11_allVotes 19 rfl) rfl rfl (Nat.le_of_ble_eq_true rfl) rfl ?_
    refine x_iincW (L' := [some (vR _), some (vI _), some (vI _), some (vI _), some (vI _)]) (tk K_X11_allVotes 20 rfl) rfl ic_1 rfl (Nat.le_of_ble_eq_true rfl) rfl ?_
    refine x_goto (t := 5) (tk K_X11_allVotes 21 rfl) rfl ?_
    exact h

theorem e_X11_allVotes {X : Cx} {d kc ns : Nat} {M : Mem} {Q : Option AV → Mem → Prop} {a1 : Int32} {a2 : Int32} (h : WA X d kc ns m_X11_allVotes 0 [some (vR 75), some (vI a1), some (vI a2), none, none] [] M Q) : Cl X d kc ns m_X11_allVotes [vR 75, vI a1, vI a2] M Q := Cl.intro (k := 2) (by decide) rfl rfl h

-- TwoPencilsModel.told(II)I
theorem b_X11_told_0 {X : Cx} {d kc ns : Nat} {M : Mem} {Q : Option AV → Mem → Prop} {l1 : Int32} {l2 : Int32} (hS : RfS M) (hd : 1 ≤ d)
    (h : Cl X (d - 1) 0 0 m_X11_isLand [vR 75, vI l1] M (fun r M1 => ∃ x1 : Int32, r = some (vI x1) ∧ Ext M M1 ∧ ((x1 = nI 0 → Q (some (vI (-1))) M1) ∧ (¬ x1 = nI 0 → Cl X (d - 1) 0 0 m_X11_in [vI l2, vI (nI 0), vI (nI 6)] M1 (fun r M2 => ∃ x2 : Int32, r = some (vI x2) ∧ Ext M1 M2 ∧ ((¬ x2 = nI 0 → ((¬ l2 = nI 0 → ((¬ l2 = (nI 1) → ((¬ l2 = (nI 2) → ((¬ l2 = (nI 3) → Cl X (d - 1) 0 0 m_X11_allVotes [vR 75, vI l1, vI (l2 - (nI 4))] M2 (fun r M3 => ∃ x3 : Int32, r = some (vI x3) ∧ Ext M2 M3 ∧ Q (some (vI x3)) M3)) ∧ (l2 = (nI 3) → vp_in l1 7 ∧ Q (some (vI (mI M2 80 (ix l1)))) M2))) ∧ (l2 = (nI 2) → vp_in l1 7 ∧ Q (some (vI (mI M2 79 (ix l1)))) M2))) ∧ (l2 = (nI 1) → vp_in l1 7 ∧ Q (some (vI (mI M2 78 (ix l1)))) M2))) ∧ (l2 = nI 0 → vp_in l1 7 ∧ Q (some (vI (mI M2 77 (ix l1)))) M2))) ∧ (x2 = nI 0 → Q (some (vI (-1))) M2))))))) :
    WA X d kc ns m_X11_told 0 [some (vR 75), some (vI l1), some (vI l2)] [] M Q := by
  refine x_aload_n (tk K_X11_told 0 rfl) rfl rfl ?_
  refine x_iload_n (tk K_X11_told 1 rfl) rfl rfl ?_
  refine x_callV0 (As := [vI _]) (S := []) (tk K_X11_told 2 rfl) mk_X11_168 mo_X11_isLand (RfS.o hS) rfl rfl (Nat.le_of_ble_eq_true rfl) hd h (fun r M1 hq => ?_)
  obtain ⟨x1, rfl, hE, h⟩ := hq
  have hT0 := RfS.ext hS hE
  refine x_if_eq (t := 18) (tk K_X11_told 3 rfl) rfl (fun hc => ?_) (fun hc => ?_)
  · have h := h.1 hc
    refine x_iconst (tk K_X11_told 9 rfl) ic_m1 ?_
    exact x_ireturn (tk K_X11_told 10 rfl) rfl rfl h
  · have h := h.2 hc
    refine x_iload_n (tk K_X11_told 4 rfl) rfl rfl ?_
    refine x_iconst (tk K_X11_told 5 rfl) ic_0 ?_
    refine x_bipush (tk K_X11_told 6 rfl) bp_6 ?_
    refine x_callS0 (As := [vI _, vI _, vI _]) (S := []) (tk K_X11_told 7 rfl) mk_X11_125 mo_X11_in rfl rfl (Nat.le_of_ble_eq_true rfl) hd h (fun r M2 hq => ?_)
    obtain ⟨x2, rfl, hE, h⟩ := hq
    have hT1 := RfS.ext hT0 hE
    refine x_if_ne (t := 20) (tk K_X11_told 8 rfl) rfl (fun hc => ?_) (fun hc => ?_)
    · have h := h.1 hc
      refine x_iload_n (tk K_X11_told 11 rfl) rfl rfl ?_
      refine x_if_ne (t := 33) (tk K_X11_told 12 rfl) rfl (fun hc => ?_) (fun hc => ?_)
      · have h := h.1 hc
        refine x_iload_n (tk K_X11_told 18 rfl) rfl rfl ?_
        refine x_iconst (tk K_X11_told 19 rfl) ic_1 ?_
        refine x_icmp_ne (t := 47) (tk K_X11_told 20 rfl) rfl (fun hc => ?_) (fun hc => ?_)
        · have h := h.1 hc
          refine x_iload_n (tk K_X11_told 26 rfl) rfl rfl ?_
          refine x_iconst (tk K_X11_told 27 rfl) ic_2 ?_
          refine x_icmp_ne (t := 61) (tk K_X11_told 28 rfl) rfl (fun hc => ?_) (fun hc => ?_)
          · have h := h.1 hc
            refine x_iload_n (tk K_X11_told 34 rfl) rfl rfl ?_
            refine x_iconst (tk K_X11_told 35 rfl) ic_3 ?_
            refine x_icmp_ne (t := 75) (tk K_X11_told 36 rfl) rfl (fun hc => ?_) (fun hc => ?_)
            · have h := h.1 hc
              refine x_aload_n (tk K_X11_told 42 rfl) rfl rfl ?_
              refine x_iload_n (tk K_X11_told 43 rfl) rfl rfl ?_
              refine x_iload_n (tk K_X11_told 44 rfl) rfl rfl ?_
              refine x_iconst (tk K_X11_told 45 rfl) ic_4 ?_
              refine x_isub (tk K_X11_told 46 rfl) ?_
              refine x_callV0 (As := [vI _, vI _]) (S := []) (tk K_X11_told 47 rfl) mk_X11_171 mo_X11_allVotes (RfS.o hT1) rfl rfl (Nat.le_of_ble_eq_true rfl) hd h (fun r M3 hq => ?_)
              obtain ⟨x3, rfl, hE, h⟩ := hq
              have hT2 := RfS.ext hT1 hE
              exact x_ireturn (tk K_X11_told 48 rfl) rfl rfl h
            · have h := h.2 hc
              refine x_aload_n (tk K_X11_told 37 rfl) rfl rfl ?_
              refine x_getRc (tk K_X11_told 38 rfl) f_X11_22 rfl (RfS.o hT1) (RfS.r8 hT1) ?_
              refine x_iload_n (tk K_X11_told 39 rfl) rfl rfl ?_
              have hi := h.1
              have h := h.2
              refine x_iald (tk K_X11_told 40 rfl) (RfS.k8 hT1) hi ?_
              refine x_goto (t := 83) (tk K_X11_told 41 rfl) rfl ?_
              exact x_ireturn (tk K_X11_told 48 rfl) rfl rfl h
          · have h := h.2 hc
            refine x_aload_n (tk K_X11_told 29 rfl) rfl rfl ?_
            refine x_getRc (tk K_X11_told 30 rfl) f_X11_19 rfl (RfS.o hT1) (RfS.r7 hT1) ?_
            refine x_iload_n (tk K_X11_told 31 rfl) rfl rfl ?_
            have hi := h.1
            have h := h.2
            refine x_iald (tk K_X11_told 32 rfl) (RfS.k7 hT1) hi ?_
            refine x_goto (t := 83) (tk K_X11_told 33 rfl) rfl ?_
            exact x_ireturn (tk K_X11_told 48 rfl) rfl rfl h
        · have h := h.2 hc
          refine x_aload_n (tk K_X11_told 21 rfl) rfl rfl ?_
          refine x_getRc (tk K_X11_told 22 rfl) f_X11_16 rfl (RfS.o hT1) (RfS.r6 hT1) ?_
          refine x_iload_n (tk K_X11_told 23 rfl) rfl rfl ?_
          have hi := h.1
          have h := h.2
          refine x_iald (tk K_X11_told 24 rfl) (RfS.k6 hT1) hi ?_
          refine x_goto (t := 83) (tk K_X11_told 25 rfl) rfl ?_
          exact x_ireturn (tk K_X11_told 48 rfl) rfl rfl h
      · have h := h.2 hc
        refine x_aload_n (tk K_X11_told 13 rfl) rfl rfl ?_
        refine x_getRc (tk K_X11_told 14 rfl) f_X11_13 rfl (RfS.o hT1) (RfS.r5 hT1) ?_
        refine x_iload_n (tk K_X11_told 15 rfl) rfl rfl ?_
        have hi := h.1
        have h := h.2
        refine x_iald (tk K_X11_told 16 rfl) (RfS.k5 hT1) hi ?_
        refine x_goto (t := 83) (tk K_X11_told 17 rfl) rfl ?_
        exact x_ireturn (tk K_X11_told 48 rfl) rfl rfl h
    · have h := h.2 hc
      refine x_iconst (tk K_X11_told 9 rfl) ic_m1 ?_
      exact x_ireturn (tk K_X11_told 10 rfl) rfl rfl h

theorem e_X11_told {X : Cx} {d kc ns : Nat} {M : Mem} {Q : Option AV → Mem → Prop} {a1 : Int32} {a2 : Int32} (h : WA X d kc ns m_X11_told 0 [some (vR 75), some (vI a1), some (vI a2)] [] M Q) : Cl X d kc ns m_X11_told [vR 75, vI a1, vI a2] M Q := Cl.intro (k := 0) (by decide) rfl rfl h

-- TwoPencilsModel.staying(II)I
theorem b_X11_staying_0 {X : Cx} {d kc ns : Nat} {M : Mem} {Q : Option AV → Mem → Prop} {l1 : Int32} {l2 : Int32} (hS : RfS M)
    (h : WA X d kc ns m_X11_staying 5 [some (vR 75), some (vI l1), none, some (vI l2), some (vI (nI 0)), none] [] M Q) :
    WA X d kc ns m_X11_staying 0 [some (vR 75), some (vI l1), some (vI l2), none, none, none] [] M Q := by
  refine x_iload_n (tk K_X11_staying 0 rfl) rfl rfl ?_
  refine x_istore_n (L' := [some (vR _), some (vI _), some (vI _), some (vI _), none, none]) (tk K_X11_staying 1 rfl) rfl rfl (Nat.le_of_ble_eq_true rfl) rfl ?_
  refine x_iconst (tk K_X11_staying 2 rfl) ic_0 ?_
  refine x_istore (L' := [some (vR _), some (vI _), some (vI _), some (vI _), some (vI _), none]) (tk K_X11_staying 3 rfl) rfl (Nat.le_of_ble_eq_true rfl) rfl ?_
  refine x_msk [true, true, false, true, true, false] ?_
  exact h

theorem b_X11_staying_5 {X : Cx} {d kc ns : Nat} {M : Mem} {Q : Option AV → Mem → Prop} {l1 : Int32} {l3 : Int32} {l4 : Int32} (hS : RfS M)
    (h : (((nI 9) ≤ l4 → Q (some (vI l3)) M) ∧ (¬ (nI 9) ≤ l4 → WA X d kc ns m_X11_staying 15 [some (vR 75), some (vI l1), none, some (vI l3), some (vI l4), some (vI (nI 0))] [] M Q))) :
    WA X d kc ns m_X11_staying 5 [some (vR 75), some (vI l1), none, some (vI l3), some (vI l4), none] [] M Q := by
  refine x_iload (tk K_X11_staying 4 rfl) rfl ?_
  refine x_bipush (tk K_X11_staying 5 rfl) bp_9 ?_
  refine x_icmp_ge (t := 67) (tk K_X11_staying 6 rfl) rfl (fun hc => ?_) (fun hc => ?_)
  · have h := h.1 hc
    refine x_iload_n (tk K_X11_staying 39 rfl) rfl rfl ?_
    exact x_ireturn (tk K_X11_staying 40 rfl) rfl rfl h
  · have h := h.2 hc
    refine x_iconst (tk K_X11_staying 7 rfl) ic_0 ?_
    refine x_istore (L' := [some (vR _), some (vI _), none, some (vI _), some (vI _), some (vI _)]) (tk K_X11_staying 8 rfl) rfl (Nat.le_of_ble_eq_true rfl) rfl ?_
    exact h

theorem b_X11_staying_15 {X : Cx} {d kc ns : Nat} {M : Mem} {Q : Option AV → Mem → Prop} {l1 : Int32} {l3 : Int32} {l4 : Int32} {l5 : Int32} (hS : RfS M)
    (h : vp_in l1 7 ∧ (((mI M 77 (ix l1)) ≤ l5 → WA X d kc ns m_X11_staying 5 [some (vR 75), some (vI l1), none, some (vI l3), some (vI (l4 + (nI 1))), none] [] M Q) ∧ (¬ (mI M 77 (ix l1)) ≤ l5 → ((¬ ((shr l3 l5) &&& (nI 1)) = (nI 1) → ∀ x1 : Int32, x1 = (l3 ||| (nI 0)) → WA X d kc ns m_X11_staying 15 [some (vR 75), some (vI l1), none, some (vI x1), some (vI l4), some (vI (l5 + (nI 1)))] [] M Q) ∧ (((shr l3 l5) &&& (nI 1)) = (nI 1) → vp_in (((nI 9) * l1) + l5) 63 ∧ ∀ x2 : Int32, x2 = (l3 ||| (mI M 83 (ix (((nI 9) * l1) + l5)))) → WA X d kc ns m_X11_staying 15 [some (vR 75), some (vI l1), none, some (vI x2), some (vI l4), some (vI (l5 + (nI 1)))] [] M Q))))) :
    WA X d kc ns m_X11_staying 15 [some (vR 75), some (vI l1), none, some (vI l3), some (vI l4), some (vI l5)] [] M Q := by
  refine x_iload (tk K_X11_staying 9 rfl) rfl ?_
  refine x_aload_n (tk K_X11_staying 10 rfl) rfl rfl ?_
  refine x_getRc (tk K_X11_staying 11 rfl) f_X11_13 rfl (RfS.o hS) (RfS.r5 hS) ?_
  refine x_iload_n (tk K_X11_staying 12 rfl) rfl rfl ?_
  have hi := h.1
  have h := h.2
  refine x_iald (tk K_X11_staying 13 rfl) (RfS.k5 hS) hi ?_
  refine x_icmp_ge (t := 61) (tk K_X11_staying 14 rfl) rfl (fun hc => ?_) (fun hc => ?_)
  · have h := h.1 hc
    refine x_iincW (L' := [some (vR _), some (vI _), none, some (vI _), some (vI _), some (vI _)]) (tk K_X11_staying 37 rfl) rfl ic_1 rfl (Nat.le_of_ble_eq_true rfl) rfl ?_
    refine x_goto (t := 5) (tk K_X11_staying 38 rfl) rfl ?_
    refine x_msk [true, true, false, true, true, false] ?_
    exact h
  · have h := h.2 hc
    refine x_iload_n (tk K_X11_staying 15 rfl) rfl rfl ?_
    refine x_iload_n (tk K_X11_staying 16 rfl) rfl rfl ?_
    refine x_iload (tk K_X11_staying 17 rfl) rfl ?_
    refine x_ishr (tk K_X11_staying 18 rfl) ?_
    refine x_iconst (tk K_X11_staying 19 rfl) ic_1 ?_
    refine x_iand (tk K_X11_staying 20 rfl) ?_
    refine x_iconst (tk K_X11_staying 21 rfl) ic_1 ?_
    refine x_icmp_ne (t := 52) (tk K_X11_staying 22 rfl) rfl (fun hc => ?_) (fun hc => ?_)
    · have h := h.1 hc
      refine x_iconst (tk K_X11_staying 32 rfl) ic_0 ?_
      refine x_ior (tk K_X11_staying 33 rfl) ?_
      have h := h _ rfl
      refine x_istore_n (L' := [some (vR _), some (vI _), none, some (vI _), some (vI _), some (vI _)]) (tk K_X11_staying 34 rfl) rfl rfl (Nat.le_of_ble_eq_true rfl) rfl ?_
      refine x_iincW (L' := [some (vR _), some (vI _), none, some (vI _), some (vI _), some (vI _)]) (tk K_X11_staying 35 rfl) rfl ic_1 rfl (Nat.le_of_ble_eq_true rfl) rfl ?_
      refine x_goto (t := 15) (tk K_X11_staying 36 rfl) rfl ?_
      exact h
    · have h := h.2 hc
      refine x_aload_n (tk K_X11_staying 23 rfl) rfl rfl ?_
      refine x_getRc (tk K_X11_staying 24 rfl) f_X11_31 rfl (RfS.o hS) (RfS.r11 hS) ?_
      refine x_bipush (tk K_X11_staying 25 rfl) bp_9 ?_
      refine x_iload_n (tk K_X11_staying 26 rfl) rfl rfl ?_
      refine x_imul (tk K_X11_staying 27 rfl) ?_
      refine x_iload (tk K_X11_staying 28 rfl) rfl ?_
      refine x_iadd (tk K_X11_staying 29 rfl) ?_
      have hi := h.1
      have h := h.2
      refine x_iald (tk K_X11_staying 30 rfl) (RfS.k11 hS) hi ?_
      refine x_goto (t := 53) (tk K_X11_staying 31 rfl) rfl ?_
      refine x_ior (tk K_X11_staying 33 rfl) ?_
      have h := h _ rfl
      refine x_istore_n (L' := [some (vR _), some (vI _), none, some (vI _), some (vI _), some (vI _)]) (tk K_X11_staying 34 rfl) rfl rfl (Nat.le_of_ble_eq_true rfl) rfl ?_
      refine x_iincW (L' := [some (vR _), some (vI _), none, some (vI _), some (vI _), some (vI _)]) (tk K_X11_staying 35 rfl) rfl ic_1 rfl (Nat.le_of_ble_eq_true rfl) rfl ?_
      refine x_goto (t := 15) (tk K_X11_staying 36 rfl) rfl ?_
      exact h

theorem e_X11_staying {X : Cx} {d kc ns : Nat} {M : Mem} {Q : Option AV → Mem → Prop} {a1 : Int32} {a2 : Int32} (h : WA X d kc ns m_X11_staying 0 [some (vR 75), some (vI a1), some (vI a2), none, none, none] [] M Q) : Cl X d kc ns m_X11_staying [vR 75, vI a1, vI a2] M Q := Cl.intro (k := 3) (by decide) rfl rfl h

-- TwoPencilsModel.parish(III)I
theorem b_X11_parish_0 {X : Cx} {d kc ns : Nat} {M : Mem} {Q : Option AV → Mem → Prop} {l1 : Int32} {l2 : Int32} {l3 : Int32} (hS : RfS M) (hd : 1 ≤ d)
    (h : Cl X (d - 1) 0 0 m_X11_isParish [vR 75, vI l1, vI l2] M (fun r M1 => ∃ x1 : Int32, r = some (vI x1) ∧ Ext M M1 ∧ ((x1 = nI 0 → WA X d kc ns m_X11_parish 23 [some (vR 75), some (vI l1), some (vI l2), some (vI l3)] [vR 75] M1 Q) ∧ (¬ x1 = nI 0 → Cl X (d - 1) 0 0 m_X11_in [vI l3, vI (nI 0), vI (nI 4)] M1 (fun r M2 => ∃ x2 : Int32, r = some (vI x2) ∧ Ext M1 M2 ∧ ((x2 = nI 0 → WA X d kc ns m_X11_parish 23 [some (vR 75), some (vI l1), some (vI l2), some (vI l3)] [vR 75] M2 Q) ∧ (¬ x2 = nI 0 → WA X d kc ns m_X11_parish 24 [some (vR 75), some (vI l1), some (vI l2), some (vI l3)] [vI (nI 0), vR 75] M2 Q))))))) :
    WA X d kc ns m_X11_parish 0 [some (vR 75), some (vI l1), some (vI l2), some (vI l3)] [] M Q := by
  refine x_aload_n (tk K_X11_parish 0 rfl) rfl rfl ?_
  refine x_aload_n (tk K_X11_parish 1 rfl) rfl rfl ?_
  refine x_iload_n (tk K_X11_parish 2 rfl) rfl rfl ?_
  refine x_iload_n (tk K_X11_parish 3 rfl) rfl rfl ?_
  refine x_callV0 (As := [vI _, vI _]) (S := [vR _]) (tk K_X11_parish 4 rfl) mk_X11_174 mo_X11_isParish (RfS.o hS) rfl rfl (Nat.le_of_ble_eq_true rfl) hd h (fun r M1 hq => ?_)
  obtain ⟨x1, rfl, hE, h⟩ := hq
  have hT0 := RfS.ext hS hE
  refine x_if_eq (t := 23) (tk K_X11_parish 5 rfl) rfl (fun hc => ?_) (fun hc => ?_)
  · have h := h.1 hc
    exact h
  · have h := h.2 hc
    refine x_iload_n (tk K_X11_parish 6 rfl) rfl rfl ?_
    refine x_iconst (tk K_X11_parish 7 rfl) ic_0 ?_
    refine x_iconst (tk K_X11_parish 8 rfl) ic_4 ?_
    refine x_callS0 (As := [vI _, vI _, vI _]) (S := [vR _]) (tk K_X11_parish 9 rfl) mk_X11_125 mo_X11_in rfl rfl (Nat.le_of_ble_eq_true rfl) hd h (fun r M2 hq => ?_)
    obtain ⟨x2, rfl, hE, h⟩ := hq
    have hT1 := RfS.ext hT0 hE
    refine x_if_eq (t := 23) (tk K_X11_parish 10 rfl) rfl (fun hc => ?_) (fun hc => ?_)
    · have h := h.1 hc
      exact h
    · have h := h.2 hc
      refine x_iconst (tk K_X11_parish 11 rfl) ic_0 ?_
      refine x_goto (t := 24) (tk K_X11_parish 12 rfl) rfl ?_
      exact h

theorem b_X11_parish_23 {X : Cx} {d kc ns : Nat} {M : Mem} {Q : Option AV → Mem → Prop} {l1 : Int32} {l2 : Int32} {l3 : Int32} (hS : RfS M)
    (h : WA X d kc ns m_X11_parish 24 [some (vR 75), some (vI l1), some (vI l2), some (vI l3)] [vI (nI 1), vR 75] M Q) :
    WA X d kc ns m_X11_parish 23 [some (vR 75), some (vI l1), some (vI l2), some (vI l3)] [vR 75] M Q := by
  refine x_iconst (tk K_X11_parish 13 rfl) ic_1 ?_
  exact h

theorem b_X11_parish_24 {X : Cx} {d kc ns : Nat} {M : Mem} {Q : Option AV → Mem → Prop} {l1 : Int32} {l2 : Int32} {l3 : Int32} {s1 : Int32} (hS : RfS M) (hd : 1 ≤ d)
    (h : ∀ M1 : Mem, M1 = sI M 75 0 s1 → ((¬ (mI M1 75 0) = (nI 1) → (((nI 3) ≤ l3 → ((¬ l3 = (nI 3) → Cl X (d - 1) 0 0 m_X11_staying [vR 75, vI l1, vI (shl (nI 1) l2)] M1 (fun r M2 => ∃ x1 : Int32, r = some (vI x1) ∧ Ext M1 M2 ∧ Q (some (vI x1)) M2)) ∧ (l3 = (nI 3) → vp_in (((nI 9) * l1) + l2) 63 ∧ Q (some (vI (mI M1 82 (ix (((nI 9) * l1) + l2))))) M1))) ∧ (¬ (nI 3) ≤ l3 → Cl X (d - 1) 0 0 m_X11_voteAt [vI l1, vI l2, vI l3] M1 (fun r M3 => ∃ x2 : Int32, r = some (vI x2) ∧ Ext M1 M3 ∧ vp_in x2 189 ∧ Q (some (vI (mI M3 81 (ix x2)))) M3)))) ∧ ((mI M1 75 0) = (nI 1) → Q (some (vI (nI 0))) M1))) :
    WA X d kc ns m_X11_parish 24 [some (vR 75), some (vI l1), some (vI l2), some (vI l3)] [vI s1, vR 75] M Q := by
  have h := h _ rfl
  refine x_putI (tk K_X11_parish 14 rfl) f_X11_96 rfl (Or.inl rfl) (RfS.o hS) ?_
  refine x_aload_n (tk K_X11_parish 15 rfl) rfl rfl ?_
  refine x_getI (tk K_X11_parish 16 rfl) f_X11_96 rfl (RfS.o hS) ?_
  refine x_iconst (tk K_X11_parish 17 rfl) ic_1 ?_
  refine x_icmp_ne (t := 37) (tk K_X11_parish 18 rfl) rfl (fun hc => ?_) (fun hc => ?_)
  · have h := h.1 hc
    refine x_iload_n (tk K_X11_parish 21 rfl) rfl rfl ?_
    refine x_iconst (tk K_X11_parish 22 rfl) ic_3 ?_
    refine x_icmp_ge (t := 56) (tk K_X11_parish 23 rfl) rfl (fun hc => ?_) (fun hc => ?_)
    · have h := h.1 hc
      refine x_iload_n (tk K_X11_parish 32 rfl) rfl rfl ?_
      refine x_iconst (tk K_X11_parish 33 rfl) ic_3 ?_
      refine x_icmp_ne (t := 75) (tk K_X11_parish 34 rfl) rfl (fun hc => ?_) (fun hc => ?_)
      · have h := h.1 hc
        refine x_aload_n (tk K_X11_parish 44 rfl) rfl rfl ?_
        refine x_iload_n (tk K_X11_parish 45 rfl) rfl rfl ?_
        refine x_iconst (tk K_X11_parish 46 rfl) ic_1 ?_
        refine x_iload_n (tk K_X11_parish 47 rfl) rfl rfl ?_
        refine x_ishl (tk K_X11_parish 48 rfl) ?_
        refine x_callV0 (As := [vI _, vI _]) (S := []) (tk K_X11_parish 49 rfl) mk_X11_178 mo_X11_staying (RfS.o hS) rfl rfl (Nat.le_of_ble_eq_true rfl) hd h (fun r M2 hq => ?_)
        obtain ⟨x1, rfl, hE, h⟩ := hq
        have hT0 := RfS.ext hS hE
        exact x_ireturn (tk K_X11_parish 50 rfl) rfl rfl h
      · have h := h.2 hc
        refine x_aload_n (tk K_X11_parish 35 rfl) rfl rfl ?_
        refine x_getRc (tk K_X11_parish 36 rfl) f_X11_28 rfl (RfS.o hS) (RfS.r10 hS) ?_
        refine x_bipush (tk K_X11_parish 37 rfl) bp_9 ?_
        refine x_iload_n (tk K_X11_parish 38 rfl) rfl rfl ?_
        refine x_imul (tk K_X11_parish 39 rfl) ?_
        refine x_iload_n (tk K_X11_parish 40 rfl) rfl rfl ?_
        refine x_iadd (tk K_X11_parish 41 rfl) ?_
        have hi := h.1
        have h := h.2
        refine x_iald (tk K_X11_parish 42 rfl) (RfS.k10 hS) hi ?_
        refine x_goto (t := 83) (tk K_X11_parish 43 rfl) rfl ?_
        exact x_ireturn (tk K_X11_parish 50 rfl) rfl rfl h
    · have h := h.2 hc
      refine x_aload_n (tk K_X11_parish 24 rfl) rfl rfl ?_
      refine x_getRc (tk K_X11_parish 25 rfl) f_X11_25 rfl (RfS.o hS) (RfS.r9 hS) ?_
      refine x_iload_n (tk K_X11_parish 26 rfl) rfl rfl ?_
      refine x_iload_n (tk K_X11_parish 27 rfl) rfl rfl ?_
      refine x_iload_n (tk K_X11_parish 28 rfl) rfl rfl ?_
      refine x_callS0 (As := [vI _, vI _, vI _]) (S := [vR _]) (tk K_X11_parish 29 rfl) mk_X11_129 mo_X11_voteAt rfl rfl (Nat.le_of_ble_eq_true rfl) hd h (fun r M3 hq => ?_)
      obtain ⟨x2, rfl, hE, h⟩ := hq
      have hT1 := RfS.ext hS hE
      have hT2 := hE.1 _ _ _ (RfS.k9 hS)
      have hi := h.1
      have h := h.2
      refine x_iald (tk K_X11_parish 30 rfl) hT2 hi ?_
      refine x_goto (t := 83) (tk K_X11_parish 31 rfl) rfl ?_
      exact x_ireturn (tk K_X11_parish 50 rfl) rfl rfl h
  · have h := h.2 hc
    refine x_iconst (tk K_X11_parish 19 rfl) ic_0 ?_
    exact x_ireturn (tk K_X11_parish 20 rfl) rfl rfl h

theorem e_X11_parish {X : Cx} {d kc ns : Nat} {M : Mem} {Q : Option AV → Mem → Prop} {a1 : Int32} {a2 : Int32} {a3 : Int32} (h : WA X d kc ns m_X11_parish 0 [some (vR 75), some (vI a1), some (vI a2), some (vI a3)] [] M Q) : Cl X d kc ns m_X11_parish [vR 75, vI a1, vI a2, vI a3] M Q := Cl.intro (k := 0) (by decide) rfl rfl h

-- TwoPencilsModel.failing(II)I
theorem b_X11_failing_0 {X : Cx} {d kc ns : Nat} {M : Mem} {Q : Option AV → Mem → Prop} {l1 : Int32} {l2 : Int32} (hS : RfS M)
    (h : ∀ x1 : Int32, x1 = (l2 &&& (-l2)) → WA X d kc ns m_X11_failing 8 [some (vR 75), some (vI l1), some (vI l2), some (vI x1), some (vI (nI 0)), none, none] [] M Q) :
    WA X d kc ns m_X11_failing 0 [some (vR 75), some (vI l1), some (vI l2), none, none, none, none] [] M Q := by
  refine x_iload_n (tk K_X11_failing 0 rfl) rfl rfl ?_
  refine x_iload_n (tk K_X11_failing 1 rfl) rfl rfl ?_
  refine x_ineg (tk K_X11_failing 2 rfl) ?_
  refine x_iand (tk K_X11_failing 3 rfl) ?_
  have h := h _ rfl
  refine x_istore_n (L' := [some (vR _), some (vI _), some (vI _), some (vI _), none, none, none]) (tk K_X11_failing 4 rfl) rfl rfl (Nat.le_of_ble_eq_true rfl) rfl ?_
  refine x_iconst (tk K_X11_failing 5 rfl) ic_0 ?_
  refine x_istore (L' := [some (vR _), some (vI _), some (vI _), some (vI _), some (vI _), none, none]) (tk K_X11_failing 6 rfl) rfl (Nat.le_of_ble_eq_true rfl) rfl ?_
  exact h

theorem b_X11_failing_8 {X : Cx} {d kc ns : Nat} {M : Mem} {Q : Option AV → Mem → Prop} {l1 : Int32} {l2 : Int32} {l3 : Int32} {l4 : Int32} (hS : RfS M)
    (h : (((nI 9) ≤ l4 → ((l3 = l2 → WA X d kc ns m_X11_failing 85 [some (vR 75), some (vI l1), some (vI l2), none, some (vI (nI 0)), some (vI (nI 0)), none] [] M Q) ∧ (¬ l3 = l2 → Q (some (vI (nI 2))) M))) ∧ (¬ (nI 9) ≤ l4 → WA X d kc ns m_X11_failing 18 [some (vR 75), some (vI l1), some (vI l2), some (vI l3), some (vI l4), some (vI (nI 0)), none] [] M Q))) :
    WA X d kc ns m_X11_failing 8 [some (vR 75), some (vI l1), some (vI l2), some (vI l3), some (vI l4), none, none] [] M Q := by
  refine x_iload (tk K_X11_failing 7 rfl) rfl ?_
  refine x_bipush (tk K_X11_failing 8 rfl) bp_9 ?_
  refine x_icmp_ge (t := 72) (tk K_X11_failing 9 rfl) rfl (fun hc => ?_) (fun hc => ?_)
  · have h := h.1 hc
    refine x_iload_n (tk K_X11_failing 44 rfl) rfl rfl ?_
    refine x_iload_n (tk K_X11_failing 45 rfl) rfl rfl ?_
    refine x_icmp_eq (t := 79) (tk K_X11_failing 46 rfl) rfl (fun hc => ?_) (fun hc => ?_)
    · have h := h.1 hc
      refine x_iconst (tk K_X11_failing 49 rfl) ic_0 ?_
      refine x_istore (L' := [some (vR _), some (vI _), some (vI _), some (vI _), some (vI _), none, none]) (tk K_X11_failing 50 rfl) rfl (Nat.le_of_ble_eq_true rfl) rfl ?_
      refine x_iconst (tk K_X11_failing 51 rfl) ic_0 ?_
      refine x_istore (L' := [some (vR _), some (vI _), some (vI _), some (vI _), some (vI _), some (vI _), none]) (tk K_X11_failing 52 rfl) rfl (Nat.le_of_ble_eq_true rfl) rfl ?_
      refine x_msk [true, true, true, false, true, true, false] ?_
      exact h
    · have h := h.2 hc
      refine x_iconst (tk K_X11_failing 47 rfl) ic_2 ?_
      exact x_ireturn (tk K_X11_failing 48 rfl) rfl rfl h
  · have h := h.2 hc
    refine x_iconst (tk K_X11_failing 10 rfl) ic_0 ?_
    refine x_istore (L' := [some (vR _), some (vI _), some (vI _), some (vI _), some (vI _), some (vI _), none]) (tk K_X11_failing 11 rfl) rfl (Nat.le_of_ble_eq_true rfl) rfl ?_
    exact h

theorem b_X11_failing_18 {X : Cx} {d kc ns : Nat} {M : Mem} {Q : Option AV → Mem → Prop} {l1 : Int32} {l2 : Int32} {l3 : Int32} {l4 : Int32} {l5 : Int32} (hS : RfS M)
    (h : vp_in l1 7 ∧ (((mI M 77 (ix l1)) ≤ l5 → WA X d kc ns m_X11_failing 8 [some (vR 75), some (vI l1), some (vI l2), some (vI l3), some (vI (l4 + (nI 1))), none, none] [] M Q) ∧ (¬ (mI M 77 (ix l1)) ≤ l5 → ((¬ ((shr l3 l5) &&& (nI 1)) = (nI 1) → ∀ x1 : Int32, x1 = (l3 ||| (nI 0)) → WA X d kc ns m_X11_failing 18 [some (vR 75), some (vI l1), some (vI l2), some (vI x1), some (vI l4), some (vI (l5 + (nI 1))), none] [] M Q) ∧ (((shr l3 l5) &&& (nI 1)) = (nI 1) → vp_in (((nI 9) * l1) + l5) 63 ∧ ∀ x2 : Int32, x2 = (l3 ||| ((mI M 82 (ix (((nI 9) * l1) + l5))) &&& l2)) → WA X d kc ns m_X11_failing 18 [some (vR 75), some (vI l1), some (vI l2), some (vI x2), some (vI l4), some (vI (l5 + (nI 1))), none] [] M Q))))) :
    WA X d kc ns m_X11_failing 18 [some (vR 75), some (vI l1), some (vI l2), some (vI l3), some (vI l4), some (vI l5), none] [] M Q := by
  refine x_iload (tk K_X11_failing 12 rfl) rfl ?_
  refine x_aload_n (tk K_X11_failing 13 rfl) rfl rfl ?_
  refine x_getRc (tk K_X11_failing 14 rfl) f_X11_13 rfl (RfS.o hS) (RfS.r5 hS) ?_
  refine x_iload_n (tk K_X11_failing 15 rfl) rfl rfl ?_
  have hi := h.1
  have h := h.2
  refine x_iald (tk K_X11_failing 16 rfl) (RfS.k5 hS) hi ?_
  refine x_icmp_ge (t := 66) (tk K_X11_failing 17 rfl) rfl (fun hc => ?_) (fun hc => ?_)
  · have h := h.1 hc
    refine x_iincW (L' := [some (vR _), some (vI _), some (vI _), some (vI _), some (vI _), some (vI _), none]) (tk K_X11_failing 42 rfl) rfl ic_1 rfl (Nat.le_of_ble_eq_true rfl) rfl ?_
    refine x_goto (t := 8) (tk K_X11_failing 43 rfl) rfl ?_
    refine x_msk [true, true, true, true, true, false, false] ?_
    exact h
  · have h := h.2 hc
    refine x_iload_n (tk K_X11_failing 18 rfl) rfl rfl ?_
    refine x_iload_n (tk K_X11_failing 19 rfl) rfl rfl ?_
    refine x_iload (tk K_X11_failing 20 rfl) rfl ?_
    refine x_ishr (tk K_X11_failing 21 rfl) ?_
    refine x_iconst (tk K_X11_failing 22 rfl) ic_1 ?_
    refine x_iand (tk K_X11_failing 23 rfl) ?_
    refine x_iconst (tk K_X11_failing 24 rfl) ic_1 ?_
    refine x_icmp_ne (t := 57) (tk K_X11_failing 25 rfl) rfl (fun hc => ?_) (fun hc => ?_)
    · have h := h.1 hc
      refine x_iconst (tk K_X11_failing 37 rfl) ic_0 ?_
      refine x_ior (tk K_X11_failing 38 rfl) ?_
      have h := h _ rfl
      refine x_istore_n (L' := [some (vR _), some (vI _), some (vI _), some (vI _), some (vI _), some (vI _), none]) (tk K_X11_failing 39 rfl) rfl rfl (Nat.le_of_ble_eq_true rfl) rfl ?_
      refine x_iincW (L' := [some (vR _), some (vI _), some (vI _), some (vI _), some (vI _), some (vI _), none]) (tk K_X11_failing 40 rfl) rfl ic_1 rfl (Nat.le_of_ble_eq_true rfl) rfl ?_
      refine x_goto (t := 18) (tk K_X11_failing 41 rfl) rfl ?_
      exact h
    · have h := h.2 hc
      refine x_aload_n (tk K_X11_failing 26 rfl) rfl rfl ?_
      refine x_getRc (tk K_X11_failing 27 rfl) f_X11_28 rfl (RfS.o hS) (RfS.r10 hS) ?_
      refine x_bipush (tk K_X11_failing 28 rfl) bp_9 ?_
      refine x_iload_n (tk K_X11_failing 29 rfl) rfl rfl ?_
      refine x_imul (tk K_X11_failing 30 rfl) ?_
      refine x_iload (tk K_X11_failing 31 rfl) rfl ?_
      refine x_iadd (tk K_X11_failing 32 rfl) ?_
      have hi := h.1
      have h := h.2
      refine x_iald (tk K_X11_failing 33 rfl) (RfS.k10 hS) hi ?_
      refine x_iload_n (tk K_X11_failing 34 rfl) rfl rfl ?_
      refine x_iand (tk K_X11_failing 35 rfl) ?_
      refine x_goto (t := 58) (tk K_X11_failing 36 rfl) rfl ?_
      refine x_ior (tk K_X11_failing 38 rfl) ?_
      have h := h _ rfl
      refine x_istore_n (L' := [some (vR _), some (vI _), some (vI _), some (vI _), some (vI _), some (vI _), none]) (tk K_X11_failing 39 rfl) rfl rfl (Nat.le_of_ble_eq_true rfl) rfl ?_
      refine x_iincW (L' := [some (vR _), some (vI _), some (vI _), some (vI _), some (vI _), some (vI _), none]) (tk K_X11_failing 40 rfl) rfl ic_1 rfl (Nat.le_of_ble_eq_true rfl) rfl ?_
      refine x_goto (t := 18) (tk K_X11_failing 41 rfl) rfl ?_
      exact h

theorem b_X11_failing_85 {X : Cx} {d kc ns : Nat} {M : Mem} {Q : Option AV → Mem → Prop} {l1 : Int32} {l2 : Int32} {l4 : Int32} {l5 : Int32} (hS : RfS M) (hd : 1 ≤ d)
    (h : vp_in l1 7 ∧ (((mI M 77 (ix l1)) ≤ l5 → vp_in l1 7 ∧ vp_in l1 7 ∧ Cl X (d - 1) 0 0 m_X11_in [vI l4, vI (mI M 79 (ix l1)), vI (mI M 80 (ix l1))] M (fun r M1 => ∃ x1 : Int32, r = some (vI x1) ∧ Ext M M1 ∧ ((¬ x1 = nI 0 → Cl X (d - 1) 0 0 m_X11_staying [vR 75, vI l1, vI l2] M1 (fun r M2 => ∃ x2 : Int32, r = some (vI x2) ∧ Ext M1 M2 ∧ ((x2 = l2 → Q (some (vI (nI 0))) M2) ∧ (¬ x2 = l2 → Q (some (vI (nI 4))) M2)))) ∧ (x1 = nI 0 → Q (some (vI (nI 3))) M1)))) ∧ (¬ (mI M 77 (ix l1)) ≤ l5 → WA X d kc ns m_X11_failing 99 [some (vR 75), some (vI l1), some (vI l2), none, some (vI l4), some (vI l5), some (vI (nI 0))] [] M Q))) :
    WA X d kc ns m_X11_failing 85 [some (vR 75), some (vI l1), some (vI l2), none, some (vI l4), some (vI l5), none] [] M Q := by
  refine x_iload (tk K_X11_failing 53 rfl) rfl ?_
  refine x_aload_n (tk K_X11_failing 54 rfl) rfl rfl ?_
  refine x_getRc (tk K_X11_failing 55 rfl) f_X11_13 rfl (RfS.o hS) (RfS.r5 hS) ?_
  refine x_iload_n (tk K_X11_failing 56 rfl) rfl rfl ?_
  have hi := h.1
  have h := h.2
  refine x_iald (tk K_X11_failing 57 rfl) (RfS.k5 hS) hi ?_
  refine x_icmp_ge (t := 149) (tk K_X11_failing 58 rfl) rfl (fun hc => ?_) (fun hc => ?_)
  · have h := h.1 hc
    refine x_iload (tk K_X11_failing 87 rfl) rfl ?_
    refine x_aload_n (tk K_X11_failing 88 rfl) rfl rfl ?_
    refine x_getRc (tk K_X11_failing 89 rfl) f_X11_19 rfl (RfS.o hS) (RfS.r7 hS) ?_
    refine x_iload_n (tk K_X11_failing 90 rfl) rfl rfl ?_
    have hi := h.1
    have h := h.2
    refine x_iald (tk K_X11_failing 91 rfl) (RfS.k7 hS) hi ?_
    refine x_aload_n (tk K_X11_failing 92 rfl) rfl rfl ?_
    refine x_getRc (tk K_X11_failing 93 rfl) f_X11_22 rfl (RfS.o hS) (RfS.r8 hS) ?_
    refine x_iload_n (tk K_X11_failing 94 rfl) rfl rfl ?_
    have hi := h.1
    have h := h.2
    refine x_iald (tk K_X11_failing 95 rfl) (RfS.k8 hS) hi ?_
    refine x_callS0 (As := [vI _, vI _, vI _]) (S := []) (tk K_X11_failing 96 rfl) mk_X11_125 mo_X11_in rfl rfl (Nat.le_of_ble_eq_true rfl) hd h (fun r M1 hq => ?_)
    obtain ⟨x1, rfl, hE, h⟩ := hq
    have hT0 := RfS.ext hS hE
    have hT1 := hE.1 _ _ _ (RfS.k5 hS)
    have hT2 := hE.1 _ _ _ (RfS.k7 hS)
    have hT3 := hE.1 _ _ _ (RfS.k8 hS)
    refine x_if_ne (t := 173) (tk K_X11_failing 97 rfl) rfl (fun hc => ?_) (fun hc => ?_)
    · have h := h.1 hc
      refine x_aload_n (tk K_X11_failing 100 rfl) rfl rfl ?_
      refine x_iload_n (tk K_X11_failing 101 rfl) rfl rfl ?_
      refine x_iload_n (tk K_X11_failing 102 rfl) rfl rfl ?_
      refine x_callV0 (As := [vI _, vI _]) (S := []) (tk K_X11_failing 103 rfl) mk_X11_178 mo_X11_staying (RfS.o hT0) rfl rfl (Nat.le_of_ble_eq_true rfl) hd h (fun r M2 hq => ?_)
      obtain ⟨x2, rfl, hE, h⟩ := hq
      have hT4 := RfS.ext hT0 hE
      have hT5 := hE.1 _ _ _ hT1
      have hT6 := hE.1 _ _ _ hT2
      have hT7 := hE.1 _ _ _ hT3
      refine x_iload_n (tk K_X11_failing 104 rfl) rfl rfl ?_
      refine x_icmp_eq (t := 187) (tk K_X11_failing 105 rfl) rfl (fun hc => ?_) (fun hc => ?_)
      · have h := h.1 hc
        refine x_iconst (tk K_X11_failing 108 rfl) ic_0 ?_
        exact x_ireturn (tk K_X11_failing 109 rfl) rfl rfl h
      · have h := h.2 hc
        refine x_iconst (tk K_X11_failing 106 rfl) ic_4 ?_
        refine x_goto (t := 188) (tk K_X11_failing 107 rfl) rfl ?_
        exact x_ireturn (tk K_X11_failing 109 rfl) rfl rfl h
    · have h := h.2 hc
      refine x_iconst (tk K_X11_failing 98 rfl) ic_3 ?_
      refine x_goto (t := 188) (tk K_X11_failing 99 rfl) rfl ?_
      exact x_ireturn (tk K_X11_failing 109 rfl) rfl rfl h
  · have h := h.2 hc
    refine x_iconst (tk K_X11_failing 59 rfl) ic_0 ?_
    refine x_istore (L' := [some (vR _), some (vI _), some (vI _), none, some (vI _), some (vI _), some (vI _)]) (tk K_X11_failing 60 rfl) rfl (Nat.le_of_ble_eq_true rfl) rfl ?_
    exact h

theorem b_X11_failing_99 {X : Cx} {d kc ns : Nat} {M : Mem} {Q : Option AV → Mem → Prop} {l1 : Int32} {l2 : Int32} {l4 : Int32} {l5 : Int32} {l6 : Int32} (hS : RfS M) (hd : 1 ≤ d)
    (h : (((nI 3) ≤ l6 → WA X d kc ns m_X11_failing 85 [some (vR 75), some (vI l1), some (vI l2), none, some (vI l4), some (vI (l5 + (nI 1))), none] [] M Q) ∧ (¬ (nI 3) ≤ l6 → ((¬ ((shr l2 l5) &&& (nI 1)) = (nI 1) → ∀ x1 : Int32, x1 = (l4 + (nI 0)) → WA X d kc ns m_X11_failing 99 [some (vR 75), some (vI l1), some (vI l2), none, some (vI x1), some (vI l5), some (vI (l6 + (nI 1)))] [] M Q) ∧ (((shr l2 l5) &&& (nI 1)) = (nI 1) → Cl X (d - 1) 0 0 m_X11_voteAt [vI l1, vI l5, vI l6] M (fun r M1 => ∃ x2 : Int32, r = some (vI x2) ∧ Ext M M1 ∧ vp_in x2 189 ∧ ∀ x3 : Int32, x3 = (l4 + (mI M1 81 (ix x2))) → WA X d kc ns m_X11_failing 99 [some (vR 75), some (vI l1), some (vI l2), none, some (vI x3), some (vI l5), some (vI (l6 + (nI 1)))] [] M1 Q)))))) :
    WA X d kc ns m_X11_failing 99 [some (vR 75), some (vI l1), some (vI l2), none, some (vI l4), some (vI l5), some (vI l6)] [] M Q := by
  refine x_iload (tk K_X11_failing 61 rfl) rfl ?_
  refine x_iconst (tk K_X11_failing 62 rfl) ic_3 ?_
  refine x_icmp_ge (t := 143) (tk K_X11_failing 63 rfl) rfl (fun hc => ?_) (fun hc => ?_)
  · have h := h.1 hc
    refine x_iincW (L' := [some (vR _), some (vI _), some (vI _), none, some (vI _), some (vI _), some (vI _)]) (tk K_X11_failing 85 rfl) rfl ic_1 rfl (Nat.le_of_ble_eq_true rfl) rfl ?_
    refine x_goto (t := 85) (tk K_X11_failing 86 rfl) rfl ?_
    refine x_msk [true, true, true, false, true, true, false] ?_
    exact h
  · have h := h.2 hc
    refine x_iload (tk K_X11_failing 64 rfl) rfl ?_
    refine x_iload_n (tk K_X11_failing 65 rfl) rfl rfl ?_
    refine x_iload (tk K_X11_failing 66 rfl) rfl ?_
    refine x_ishr (tk K_X11_failing 67 rfl) ?_
    refine x_iconst (tk K_X11_failing 68 rfl) ic_1 ?_
    refine x_iand (tk K_X11_failing 69 rfl) ?_
    refine x_iconst (tk K_X11_failing 70 rfl) ic_1 ?_
    refine x_icmp_ne (t := 133) (tk K_X11_failing 71 rfl) rfl (fun hc => ?_) (fun hc => ?_)
    · have h := h.1 hc
      refine x_iconst (tk K_X11_failing 80 rfl) ic_0 ?_
      refine x_iadd (tk K_X11_failing 81 rfl) ?_
      have h := h _ rfl
      refine x_istore (L' := [some (vR _), some (vI _), some (vI _), none, some (vI _), some (vI _), some (vI _)]) (tk K_X11_failing 82 rfl) rfl (Nat.le_of_ble_eq_true rfl) rfl ?_
      refine x_iincW (L' := [some (vR _), some (vI _), some (vI _), none, some (vI _), some (vI _), some (vI _)]) (tk K_X11_failing 83 rfl) rfl ic_1 rfl (Nat.le_of_ble_eq_true rfl) rfl ?_
      refine x_goto (t := 99) (tk K_X11_failing 84 rfl) rfl ?_
      exact h
    · have h := h.2 hc
      refine x_aload_n (tk K_X11_failing 72 rfl) rfl rfl ?_
      refine x_getRc (tk K_X11_failing 73 rfl) f_X11_25 rfl (RfS.o hS) (RfS.r9 hS) ?_
      refine x_iload_n (tk K_X11_failing 74 rfl) rfl rfl ?_
      refine x_iload (tk K_X11_failing 75 rfl) rfl ?_
      refine x_iload (tk K_X11_failing 76 rfl) rfl ?_
      refine x_callS0 (As := [vI _, vI _, vI _]) (S := [vR _, vI _]) (tk K_X11_failing 77 rfl) mk_X11_129 mo_X11_voteAt rfl rfl (Nat.le_of_ble_eq_true rfl) hd h (fun r M1 hq => ?_)
      obtain ⟨x2, rfl, hE, h⟩ := hq
      have hT0 := RfS.ext hS hE
      have hT1 := hE.1 _ _ _ (RfS.k9 hS)
      have hi := h.1
      have h := h.2
      refine x_iald (tk K_X11_failing 78 rfl) hT1 hi ?_
      refine x_goto (t := 134) (tk K_X11_failing 79 rfl) rfl ?_
      refine x_iadd (tk K_X11_failing 81 rfl) ?_
      have h := h _ rfl
      refine x_istore (L' := [some (vR _), some (vI _), some (vI _), none, some (vI _), some (vI _), some (vI _)]) (tk K_X11_failing 82 rfl) rfl (Nat.le_of_ble_eq_true rfl) rfl ?_
      refine x_iincW (L' := [some (vR _), some (vI _), some (vI _), none, some (vI _), some (vI _), some (vI _)]) (tk K_X11_failing 83 rfl) rfl ic_1 rfl (Nat.le_of_ble_eq_true rfl) rfl ?_
      refine x_goto (t := 99) (tk K_X11_failing 84 rfl) rfl ?_
      exact h

theorem e_X11_failing {X : Cx} {d kc ns : Nat} {M : Mem} {Q : Option AV → Mem → Prop} {a1 : Int32} {a2 : Int32} (h : WA X d kc ns m_X11_failing 0 [some (vR 75), some (vI a1), some (vI a2), none, none, none, none] [] M Q) : Cl X d kc ns m_X11_failing [vR 75, vI a1, vI a2] M Q := Cl.intro (k := 4) (by decide) rfl rfl h

-- TwoPencilsModel.winning(II)I
theorem b_X11_winning_0 {X : Cx} {d kc ns : Nat} {M : Mem} {Q : Option AV → Mem → Prop} {l1 : Int32} {l2 : Int32} (hS : RfS M)
    (h : WA X d kc ns m_X11_winning 8 [some (vR 75), some (vI l1), some (vI l2), some (vI (nI 3)), some (vI (nI 0)), some (vI (nI 0)), none, none] [] M Q) :
    WA X d kc ns m_X11_winning 0 [some (vR 75), some (vI l1), some (vI l2), none, none, none, none, none] [] M Q := by
  refine x_iconst (tk K_X11_winning 0 rfl) ic_3 ?_
  refine x_istore_n (L' := [some (vR _), some (vI _), some (vI _), some (vI _), none, none, none, none]) (tk K_X11_winning 1 rfl) rfl rfl (Nat.le_of_ble_eq_true rfl) rfl ?_
  refine x_iconst (tk K_X11_winning 2 rfl) ic_0 ?_
  refine x_istore (L' := [some (vR _), some (vI _), some (vI _), some (vI _), some (vI _), none, none, none]) (tk K_X11_winning 3 rfl) rfl (Nat.le_of_ble_eq_true rfl) rfl ?_
  refine x_iconst (tk K_X11_winning 4 rfl) ic_0 ?_
  refine x_istore (L' := [some (vR _), some (vI _), some (vI _), some (vI _), some (vI _), some (vI _), none, none]) (tk K_X11_winning 5 rfl) rfl (Nat.le_of_ble_eq_true rfl) rfl ?_
  exact h

theorem b_X11_winning_8 {X : Cx} {d kc ns : Nat} {M : Mem} {Q : Option AV → Mem → Prop} {l1 : Int32} {l2 : Int32} {l3 : Int32} {l4 : Int32} {l5 : Int32} (hS : RfS M)
    (h : (((nI 3) ≤ l5 → Q (some (vI l3)) M) ∧ (¬ (nI 3) ≤ l5 → WA X d kc ns m_X11_winning 20 [some (vR 75), some (vI l1), some (vI l2), some (vI l3), some (vI l4), some (vI l5), some (vI (nI 0)), some (vI (nI 0))] [] M Q))) :
    WA X d kc ns m_X11_winning 8 [some (vR 75), some (vI l1), some (vI l2), some (vI l3), some (vI l4), some (vI l5), none, none] [] M Q := by
  refine x_iload (tk K_X11_winning 6 rfl) rfl ?_
  refine x_iconst (tk K_X11_winning 7 rfl) ic_3 ?_
  refine x_icmp_ge (t := 109) (tk K_X11_winning 8 rfl) rfl (fun hc => ?_) (fun hc => ?_)
  · have h := h.1 hc
    refine x_iload_n (tk K_X11_winning 58 rfl) rfl rfl ?_
    exact x_ireturn (tk K_X11_winning 59 rfl) rfl rfl h
  · have h := h.2 hc
    refine x_iconst (tk K_X11_winning 9 rfl) ic_0 ?_
    refine x_istore (L' := [some (vR _), some (vI _), some (vI _), some (vI _), some (vI _), some (vI _), some (vI _), none]) (tk K_X11_winning 10 rfl) rfl (Nat.le_of_ble_eq_true rfl) rfl ?_
    refine x_iconst (tk K_X11_winning 11 rfl) ic_0 ?_
    refine x_istore (L' := [some (vR _), some (vI _), some (vI _), some (vI _), some (vI _), some (vI _), some (vI _), some (vI _)]) (tk K_X11_winning 12 rfl) rfl (Nat.le_of_ble_eq_true rfl) rfl ?_
    exact h

theorem b_X11_winning_20 {X : Cx} {d kc ns : Nat} {M : Mem} {Q : Option AV → Mem → Prop} {l1 : Int32} {l2 : Int32} {l3 : Int32} {l4 : Int32} {l5 : Int32} {l6 : Int32} {l7 : Int32} (hS : RfS M) (hd : 1 ≤ d)
    (h : vp_in l1 7 ∧ (((mI M 77 (ix l1)) ≤ l7 → ((l6 ≤ l4 → ((¬ l6 = l4 → WA X d kc ns m_X11_winning 93 [some (vR 75), some (vI l1), some (vI l2), none, some (vI l4), some (vI l5), some (vI l6), none] [vI l3] M Q) ∧ (l6 = l4 → WA X d kc ns m_X11_winning 93 [some (vR 75), some (vI l1), some (vI l2), none, some (vI l4), some (vI l5), some (vI l6), none] [vI (nI 3)] M Q))) ∧ (¬ l6 ≤ l4 → WA X d kc ns m_X11_winning 93 [some (vR 75), some (vI l1), some (vI l2), none, some (vI l4), some (vI l5), some (vI l6), none] [vI l5] M Q))) ∧ (¬ (mI M 77 (ix l1)) ≤ l7 → ((¬ ((shr l2 l7) &&& (nI 1)) = (nI 1) → ∀ x1 : Int32, x1 = (l6 + (nI 0)) → WA X d kc ns m_X11_winning 20 [some (vR 75), some (vI l1), some (vI l2), some (vI l3), some (vI l4), some (vI l5), some (vI x1), some (vI (l7 + (nI 1)))] [] M Q) ∧ (((shr l2 l7) &&& (nI 1)) = (nI 1) → Cl X (d - 1) 0 0 m_X11_voteAt [vI l1, vI l7, vI l5] M (fun r M1 => ∃ x2 : Int32, r = some (vI x2) ∧ Ext M M1 ∧ vp_in x2 189 ∧ ∀ x3 : Int32, x3 = (l6 + (mI M1 81 (ix x2))) → WA X d kc ns m_X11_winning 20 [some (vR 75), some (vI l1), some (vI l2), some (vI l3), some (vI l4), some (vI l5), some (vI x3), some (vI (l7 + (nI 1)))] [] M1 Q)))))) :
    WA X d kc ns m_X11_winning 20 [some (vR 75), some (vI l1), some (vI l2), some (vI l3), some (vI l4), some (vI l5), some (vI l6), some (vI l7)] [] M Q := by
  refine x_iload (tk K_X11_winning 13 rfl) rfl ?_
  refine x_aload_n (tk K_X11_winning 14 rfl) rfl rfl ?_
  refine x_getRc (tk K_X11_winning 15 rfl) f_X11_13 rfl (RfS.o hS) (RfS.r5 hS) ?_
  refine x_iload_n (tk K_X11_winning 16 rfl) rfl rfl ?_
  have hi := h.1
  have h := h.2
  refine x_iald (tk K_X11_winning 17 rfl) (RfS.k5 hS) hi ?_
  refine x_icmp_ge (t := 69) (tk K_X11_winning 18 rfl) rfl (fun hc => ?_) (fun hc => ?_)
  · have h := h.1 hc
    refine x_iload (tk K_X11_winning 40 rfl) rfl ?_
    refine x_iload (tk K_X11_winning 41 rfl) rfl ?_
    refine x_icmp_le (t := 81) (tk K_X11_winning 42 rfl) rfl (fun hc => ?_) (fun hc => ?_)
    · have h := h.1 hc
      refine x_iload (tk K_X11_winning 45 rfl) rfl ?_
      refine x_iload (tk K_X11_winning 46 rfl) rfl ?_
      refine x_icmp_ne (t := 92) (tk K_X11_winning 47 rfl) rfl (fun hc => ?_) (fun hc => ?_)
      · have h := h.1 hc
        refine x_iload_n (tk K_X11_winning 50 rfl) rfl rfl ?_
        refine x_msk [true, true, true, false, true, true, true, false] ?_
        exact h
      · have h := h.2 hc
        refine x_iconst (tk K_X11_winning 48 rfl) ic_3 ?_
        refine x_goto (t := 93) (tk K_X11_winning 49 rfl) rfl ?_
        refine x_msk [true, true, true, false, true, true, true, false] ?_
        exact h
    · have h := h.2 hc
      refine x_iload (tk K_X11_winning 43 rfl) rfl ?_
      refine x_goto (t := 93) (tk K_X11_winning 44 rfl) rfl ?_
      refine x_msk [true, true, true, false, true, true, true, false] ?_
      exact h
  · have h := h.2 hc
    refine x_iload (tk K_X11_winning 19 rfl) rfl ?_
    refine x_iload_n (tk K_X11_winning 20 rfl) rfl rfl ?_
    refine x_iload (tk K_X11_winning 21 rfl) rfl ?_
    refine x_ishr (tk K_X11_winning 22 rfl) ?_
    refine x_iconst (tk K_X11_winning 23 rfl) ic_1 ?_
    refine x_iand (tk K_X11_winning 24 rfl) ?_
    refine x_iconst (tk K_X11_winning 25 rfl) ic_1 ?_
    refine x_icmp_ne (t := 59) (tk K_X11_winning 26 rfl) rfl (fun hc => ?_) (fun hc => ?_)
    · have h := h.1 hc
      refine x_iconst (tk K_X11_winning 35 rfl) ic_0 ?_
      refine x_iadd (tk K_X11_winning 36 rfl) ?_
      have h := h _ rfl
      refine x_istore (L' := [some (vR _), some (vI _), some (vI _), some (vI _), some (vI _), some (vI _), some (vI _), some (vI _)]) (tk K_X11_winning 37 rfl) rfl (Nat.le_of_ble_eq_true rfl) rfl ?_
      refine x_iincW (L' := [some (vR _), some (vI _), some (vI _), some (vI _), some (vI _), some (vI _), some (vI _), some (vI _)]) (tk K_X11_winning 38 rfl) rfl ic_1 rfl (Nat.le_of_ble_eq_true rfl) rfl ?_
      refine x_goto (t := 20) (tk K_X11_winning 39 rfl) rfl ?_
      exact h
    · have h := h.2 hc
      refine x_aload_n (tk K_X11_winning 27 rfl) rfl rfl ?_
      refine x_getRc (tk K_X11_winning 28 rfl) f_X11_25 rfl (RfS.o hS) (RfS.r9 hS) ?_
      refine x_iload_n (tk K_X11_winning 29 rfl) rfl rfl ?_
      refine x_iload (tk K_X11_winning 30 rfl) rfl ?_
      refine x_iload (tk K_X11_winning 31 rfl) rfl ?_
      refine x_callS0 (As := [vI _, vI _, vI _]) (S := [vR _, vI _]) (tk K_X11_winning 32 rfl) mk_X11_129 mo_X11_voteAt rfl rfl (Nat.le_of_ble_eq_true rfl) hd h (fun r M1 hq => ?_)
      obtain ⟨x2, rfl, hE, h⟩ := hq
      have hT0 := RfS.ext hS hE
      have hT1 := hE.1 _ _ _ (RfS.k5 hS)
      have hT2 := hE.1 _ _ _ (RfS.k9 hS)
      have hi := h.1
      have h := h.2
      refine x_iald (tk K_X11_winning 33 rfl) hT2 hi ?_
      refine x_goto (t := 60) (tk K_X11_winning 34 rfl) rfl ?_
      refine x_iadd (tk K_X11_winning 36 rfl) ?_
      have h := h _ rfl
      refine x_istore (L' := [some (vR _), some (vI _), some (vI _), some (vI _), some (vI _), some (vI _), some (vI _), some (vI _)]) (tk K_X11_winning 37 rfl) rfl (Nat.le_of_ble_eq_true rfl) rfl ?_
      refine x_iincW (L' := [some (vR _), some (vI _), some (vI _), some (vI _), some (vI _), some (vI _), some (vI _), some (vI _)]) (tk K_X11_winning 38 rfl) rfl ic_1 rfl (Nat.le_of_ble_eq_true rfl) rfl ?_
      refine x_goto (t := 20) (tk K_X11_winning 39 rfl) rfl ?_
      exact h

theorem b_X11_winning_93 {X : Cx} {d kc ns : Nat} {M : Mem} {Q : Option AV → Mem → Prop} {l1 : Int32} {l2 : Int32} {l4 : Int32} {l5 : Int32} {l6 : Int32} {s0 : Int32} (hS : RfS M) (hd : 1 ≤ d)
    (h : ∀ x1 : Int32, x1 = (maxI l4 l6) → WA X d kc ns m_X11_winning 8 [some (vR 75), some (vI l1), some (vI l2), some (vI s0), some (vI x1), some (vI (l5 + (nI 1))), none, none] [] M Q) :
    WA X d kc ns m_X11_winning 93 [some (vR 75), some (vI l1), some (vI l2), none, some (vI l4), some (vI l5), some (vI l6), none] [vI s0] M Q := by
  refine x_istore_n (L' := [some (vR _), some (vI _), some (vI _), some (vI _), some (vI _), some (vI _), some (vI _), none]) (tk K_X11_winning 51 rfl) rfl rfl (Nat.le_of_ble_eq_true rfl) rfl ?_
  refine x_iload (tk K_X11_winning 52 rfl) rfl ?_
  refine x_iload (tk K_X11_winning 53 rfl) rfl ?_
  refine x_mmax (tk K_X11_winning 54 rfl) mx_X11_181 mx_max_st mx_max_co hd (Nat.le_of_ble_eq_true rfl) ?_
  have h := h _ rfl
  refine x_istore (L' := [some (vR _), some (vI _), some (vI _), some (vI _), some (vI _), some (vI _), some (vI _), none]) (tk K_X11_winning 55 rfl) rfl (Nat.le_of_ble_eq_true rfl) rfl ?_
  refine x_iincW (L' := [some (vR _), some (vI _), some (vI _), some (vI _), some (vI _), some (vI _), some (vI _), none]) (tk K_X11_winning 56 rfl) rfl ic_1 rfl (Nat.le_of_ble_eq_true rfl) rfl ?_
  refine x_goto (t := 8) (tk K_X11_winning 57 rfl) rfl ?_
  refine x_msk [true, true, true, true, true, true, false, false] ?_
  exact h

theorem e_X11_winning {X : Cx} {d kc ns : Nat} {M : Mem} {Q : Option AV → Mem → Prop} {a1 : Int32} {a2 : Int32} (h : WA X d kc ns m_X11_winning 0 [some (vR 75), some (vI a1), some (vI a2), none, none, none, none, none] [] M Q) : Cl X d kc ns m_X11_winning [vR 75, vI a1, vI a2] M Q := Cl.intro (k := 5) (by decide) rfl rfl h

-- TwoPencilsModel.prepare(I)V
theorem b_X11_prepare_0 {X : Cx} {d kc ns : Nat} {M : Mem} {Q : Option AV → Mem → Prop} {l1 : Int32} (hS : RfS M)
    (h : ∀ M1 : Mem, M1 = sI M 75 19 l1 → WA X d kc ns m_X11_prepare 7 [some (vR 75), some (vI l1), some (vI (nI 1))] [] M1 Q) :
    WA X d kc ns m_X11_prepare 0 [some (vR 75), some (vI l1), none] [] M Q := by
  refine x_aload_n (tk K_X11_prepare 0 rfl) rfl rfl ?_
  refine x_iload_n (tk K_X11_prepare 1 rfl) rfl rfl ?_
  have h := h _ rfl
  refine x_putI (tk K_X11_prepare 2 rfl) f_X11_184 rfl (Or.inl rfl) (RfS.o hS) ?_
  refine x_iconst (tk K_X11_prepare 3 rfl) ic_1 ?_
  refine x_istore_n (L' := [some (vR _), some (vI _), some (vI _)]) (tk K_X11_prepare 4 rfl) rfl rfl (Nat.le_of_ble_eq_true rfl) rfl ?_
  exact h

theorem b_X11_prepare_7 {X : Cx} {d kc ns : Nat} {M : Mem} {Q : Option AV → Mem → Prop} {l1 : Int32} {l2 : Int32} (hS : RfS M) (hd : 1 ≤ d)
    (h : vp_in l1 7 ∧ (((shl (nI 1) (mI M 77 (ix l1))) ≤ l2 → Q none M) ∧ (¬ (shl (nI 1) (mI M 77 (ix l1))) ≤ l2 → Cl X (d - 1) 0 0 m_X11_failing [vR 75, vI l1, vI l2] M (fun r M1 => ∃ x1 : Int32, r = some (vI x1) ∧ Ext M M1 ∧ vp_in l2 512 ∧ ∀ M2 : Mem, M2 = sI M1 87 (ix l2) x1 → Cl X (d - 1) 0 0 m_X11_winning [vR 75, vI l1, vI l2] M2 (fun r M3 => ∃ x2 : Int32, r = some (vI x2) ∧ Ext M2 M3 ∧ vp_in l2 512 ∧ ∀ M4 : Mem, M4 = sI M3 88 (ix l2) x2 → WA X d kc ns m_X11_prepare 7 [some (vR 75), some (vI l1), some (vI (l2 + (nI 1)))] [] M4 Q))))) :
    WA X d kc ns m_X11_prepare 7 [some (vR 75), some (vI l1), some (vI l2)] [] M Q := by
  refine x_iload_n (tk K_X11_prepare 5 rfl) rfl rfl ?_
  refine x_iconst (tk K_X11_prepare 6 rfl) ic_1 ?_
  refine x_aload_n (tk K_X11_prepare 7 rfl) rfl rfl ?_
  refine x_getRc (tk K_X11_prepare 8 rfl) f_X11_13 rfl (RfS.o hS) (RfS.r5 hS) ?_
  refine x_iload_n (tk K_X11_prepare 9 rfl) rfl rfl ?_
  have hi := h.1
  have h := h.2
  refine x_iald (tk K_X11_prepare 10 rfl) (RfS.k5 hS) hi ?_
  refine x_ishl (tk K_X11_prepare 11 rfl) ?_
  refine x_icmp_ge (t := 49) (tk K_X11_prepare 12 rfl) rfl (fun hc => ?_) (fun hc => ?_)
  · have h := h.1 hc
    exact x_return (tk K_X11_prepare 31 rfl) rfl h
  · have h := h.2 hc
    refine x_aload_n (tk K_X11_prepare 13 rfl) rfl rfl ?_
    refine x_getRc (tk K_X11_prepare 14 rfl) f_X11_43 rfl (RfS.o hS) (RfS.r17 hS) ?_
    refine x_iload_n (tk K_X11_prepare 15 rfl) rfl rfl ?_
    refine x_aload_n (tk K_X11_prepare 16 rfl) rfl rfl ?_
    refine x_iload_n (tk K_X11_prepare 17 rfl) rfl rfl ?_
    refine x_iload_n (tk K_X11_prepare 18 rfl) rfl rfl ?_
    refine x_callV0 (As := [vI _, vI _]) (S := [vI _, vR _]) (tk K_X11_prepare 19 rfl) mk_X11_187 mo_X11_failing (RfS.o hS) rfl rfl (Nat.le_of_ble_eq_true rfl) hd h (fun r M1 hq => ?_)
    obtain ⟨x1, rfl, hE, h⟩ := hq
    have hT0 := RfS.ext hS hE
    have hT1 := hE.1 _ _ _ (RfS.k5 hS)
    have hT2 := hE.1 _ _ _ (RfS.k17 hS)
    have hi := h.1
    have h := h.2
    have h := h _ rfl
    refine x_iast (tk K_X11_prepare 20 rfl) hT2 hi ?_
    refine x_aload_n (tk K_X11_prepare 21 rfl) rfl rfl ?_
    refine x_getRc (tk K_X11_prepare 22 rfl) f_X11_46 rfl (RfS.o hT0) (RfS.r18 hT0) ?_
    refine x_iload_n (tk K_X11_prepare 23 rfl) rfl rfl ?_
    refine x_aload_n (tk K_X11_prepare 24 rfl) rfl rfl ?_
    refine x_iload_n (tk K_X11_prepare 25 rfl) rfl rfl ?_
    refine x_iload_n (tk K_X11_prepare 26 rfl) rfl rfl ?_
    refine x_callV0 (As := [vI _, vI _]) (S := [vI _, vR _]) (tk K_X11_prepare 27 rfl) mk_X11_190 mo_X11_winning (RfS.o hT0) rfl rfl (Nat.le_of_ble_eq_true rfl) hd h (fun r M3 hq => ?_)
    obtain ⟨x2, rfl, hE, h⟩ := hq
    have hT3 := RfS.ext hT0 hE
    have hT4 := hE.1 _ _ _ hT1
    have hT5 := hE.1 _ _ _ hT2
    have hT6 := hE.1 _ _ _ (RfS.k18 hT0)
    have hi := h.1
    have h := h.2
    have h := h _ rfl
    refine x_iast (tk K_X11_prepare 28 rfl) hT6 hi ?_
    refine x_iincW (L' := [some (vR _), some (vI _), some (vI _)]) (tk K_X11_prepare 29 rfl) rfl ic_1 rfl (Nat.le_of_ble_eq_true rfl) rfl ?_
    refine x_goto (t := 7) (tk K_X11_prepare 30 rfl) rfl ?_
    exact h

theorem e_X11_prepare {X : Cx} {d kc ns : Nat} {M : Mem} {Q : Option AV → Mem → Prop} {a1 : Int32} (h : WA X d kc ns m_X11_prepare 0 [some (vR 75), some (vI a1), none] [] M Q) : Cl X d kc ns m_X11_prepare [vR 75, vI a1] M Q := Cl.intro (k := 1) (by decide) rfl rfl h

-- TwoPencilsModel.digit(II)I
theorem b_X11_digit_0 {X : Cx} {d kc ns : Nat} {M : Mem} {Q : Option AV → Mem → Prop} {l1 : Int32} {l2 : Int32} (hS : RfS M)
    (h : vp_in (mI M 75 19) 7 ∧ Q (some (vI ((shr l1 ((nI 2) * (((mI M 77 (ix (mI M 75 19))) - (nI 1)) - l2))) &&& (nI 3)))) M) :
    WA X d kc ns m_X11_digit 0 [some (vR 75), some (vI l1), some (vI l2)] [] M Q := by
  refine x_iload_n (tk K_X11_digit 0 rfl) rfl rfl ?_
  refine x_iconst (tk K_X11_digit 1 rfl) ic_2 ?_
  refine x_aload_n (tk K_X11_digit 2 rfl) rfl rfl ?_
  refine x_getRc (tk K_X11_digit 3 rfl) f_X11_13 rfl (RfS.o hS) (RfS.r5 hS) ?_
  refine x_aload_n (tk K_X11_digit 4 rfl) rfl rfl ?_
  refine x_getI (tk K_X11_digit 5 rfl) f_X11_184 rfl (RfS.o hS) ?_
  have hi := h.1
  have h := h.2
  refine x_iald (tk K_X11_digit 6 rfl) (RfS.k5 hS) hi ?_
  refine x_iconst (tk K_X11_digit 7 rfl) ic_1 ?_
  refine x_isub (tk K_X11_digit 8 rfl) ?_
  refine x_iload_n (tk K_X11_digit 9 rfl) rfl rfl ?_
  refine x_isub (tk K_X11_digit 10 rfl) ?_
  refine x_imul (tk K_X11_digit 11 rfl) ?_
  refine x_ishr (tk K_X11_digit 12 rfl) ?_
  refine x_iconst (tk K_X11_digit 13 rfl) ic_3 ?_
  refine x_iand (tk K_X11_digit 14 rfl) ?_
  exact x_ireturn (tk K_X11_digit 15 rfl) rfl rfl h

theorem e_X11_digit {X : Cx} {d kc ns : Nat} {M : Mem} {Q : Option AV → Mem → Prop} {a1 : Int32} {a2 : Int32} (h : WA X d kc ns m_X11_digit 0 [some (vR 75), some (vI a1), some (vI a2)] [] M Q) : Cl X d kc ns m_X11_digit [vR 75, vI a1, vI a2] M Q := Cl.intro (k := 0) (by decide) rfl rfl h

-- TwoPencilsModel.seatOf(III)I
theorem b_X11_seatOf_0 {X : Cx} {d kc ns : Nat} {M : Mem} {Q : Option AV → Mem → Prop} {l1 : Int32} {l2 : Int32} {l3 : Int32} (hS : RfS M)
    (h : WA X d kc ns m_X11_seatOf 6 [some (vR 75), some (vI l1), some (vI l2), some (vI l3), some (vI (nI 0)), some (vI (nI 0))] [] M Q) :
    WA X d kc ns m_X11_seatOf 0 [some (vR 75), some (vI l1), some (vI l2), some (vI l3), none, none] [] M Q := by
  refine x_iconst (tk K_X11_seatOf 0 rfl) ic_0 ?_
  refine x_istore (L' := [some (vR _), some (vI _), some (vI _), some (vI _), some (vI _), none]) (tk K_X11_seatOf 1 rfl) rfl (Nat.le_of_ble_eq_true rfl) rfl ?_
  refine x_iconst (tk K_X11_seatOf 2 rfl) ic_0 ?_
  refine x_istore (L' := [some (vR _), some (vI _), some (vI _), some (vI _), some (vI _), some (vI _)]) (tk K_X11_seatOf 3 rfl) rfl (Nat.le_of_ble_eq_true rfl) rfl ?_
  exact h

theorem b_X11_seatOf_6 {X : Cx} {d kc ns : Nat} {M : Mem} {Q : Option AV → Mem → Prop} {l1 : Int32} {l2 : Int32} {l3 : Int32} {l4 : Int32} {l5 : Int32} (hS : RfS M) (hd : 1 ≤ d)
    (h : vp_in (mI M 75 19) 7 ∧ (((mI M 77 (ix (mI M 75 19))) ≤ l5 → Q (some (vI l4)) M) ∧ (¬ (mI M 77 (ix (mI M 75 19))) ≤ l5 → ((¬ ((shr l2 l5) &&& (nI 1)) = (nI 1) → WA X d kc ns m_X11_seatOf 50 [some (vR 75), some (vI l1), some (vI l2), some (vI l3), none, some (vI l5)] [vI l4] M Q) ∧ (((shr l2 l5) &&& (nI 1)) = (nI 1) → Cl X (d - 1) 0 0 m_X11_digit [vR 75, vI l1, vI l5] M (fun r M1 => ∃ x1 : Int32, r = some (vI x1) ∧ Ext M M1 ∧ ((¬ x1 = l3 → WA X d kc ns m_X11_seatOf 50 [some (vR 75), some (vI l1), some (vI l2), some (vI l3), none, some (vI l5)] [vI l4] M1 Q) ∧ (x1 = l3 → ∀ x2 : Int32, x2 = (l4 ||| (shl (nI 1) l5)) → WA X d kc ns m_X11_seatOf 6 [some (vR 75), some (vI l1), some (vI l2), some (vI l3), some (vI x2), some (vI (l5 + (nI 1)))] [] M1 Q)))))))) :
    WA X d kc ns m_X11_seatOf 6 [some (vR 75), some (vI l1), some (vI l2), some (vI l3), some (vI l4), some (vI l5)] [] M Q := by
  refine x_iload (tk K_X11_seatOf 4 rfl) rfl ?_
  refine x_aload_n (tk K_X11_seatOf 5 rfl) rfl rfl ?_
  refine x_getRc (tk K_X11_seatOf 6 rfl) f_X11_13 rfl (RfS.o hS) (RfS.r5 hS) ?_
  refine x_aload_n (tk K_X11_seatOf 7 rfl) rfl rfl ?_
  refine x_getI (tk K_X11_seatOf 8 rfl) f_X11_184 rfl (RfS.o hS) ?_
  have hi := h.1
  have h := h.2
  refine x_iald (tk K_X11_seatOf 9 rfl) (RfS.k5 hS) hi ?_
  refine x_icmp_ge (t := 60) (tk K_X11_seatOf 10 rfl) rfl (fun hc => ?_) (fun hc => ?_)
  · have h := h.1 hc
    refine x_iload (tk K_X11_seatOf 34 rfl) rfl ?_
    exact x_ireturn (tk K_X11_seatOf 35 rfl) rfl rfl h
  · have h := h.2 hc
    refine x_iload (tk K_X11_seatOf 11 rfl) rfl ?_
    refine x_iload_n (tk K_X11_seatOf 12 rfl) rfl rfl ?_
    refine x_iload (tk K_X11_seatOf 13 rfl) rfl ?_
    refine x_ishr (tk K_X11_seatOf 14 rfl) ?_
    refine x_iconst (tk K_X11_seatOf 15 rfl) ic_1 ?_
    refine x_iand (tk K_X11_seatOf 16 rfl) ?_
    refine x_iconst (tk K_X11_seatOf 17 rfl) ic_1 ?_
    refine x_icmp_ne (t := 50) (tk K_X11_seatOf 18 rfl) rfl (fun hc => ?_) (fun hc => ?_)
    · have h := h.1 hc
      refine x_msk [true, true, true, true, false, true] ?_
      exact h
    · have h := h.2 hc
      refine x_aload_n (tk K_X11_seatOf 19 rfl) rfl rfl ?_
      refine x_iload_n (tk K_X11_seatOf 20 rfl) rfl rfl ?_
      refine x_iload (tk K_X11_seatOf 21 rfl) rfl ?_
      refine x_callV0 (As := [vI _, vI _]) (S := [vI _]) (tk K_X11_seatOf 22 rfl) mk_X11_193 mo_X11_digit (RfS.o hS) rfl rfl (Nat.le_of_ble_eq_true rfl) hd h (fun r M1 hq => ?_)
      obtain ⟨x1, rfl, hE, h⟩ := hq
      have hT0 := RfS.ext hS hE
      have hT1 := hE.1 _ _ _ (RfS.k5 hS)
      refine x_iload_n (tk K_X11_seatOf 23 rfl) rfl rfl ?_
      refine x_icmp_ne (t := 50) (tk K_X11_seatOf 24 rfl) rfl (fun hc => ?_) (fun hc => ?_)
      · have h := h.1 hc
        refine x_msk [true, true, true, true, false, true] ?_
        exact h
      · have h := h.2 hc
        refine x_iconst (tk K_X11_seatOf 25 rfl) ic_1 ?_
        refine x_iload (tk K_X11_seatOf 26 rfl) rfl ?_
        refine x_ishl (tk K_X11_seatOf 27 rfl) ?_
        refine x_goto (t := 51) (tk K_X11_seatOf 28 rfl) rfl ?_
        refine x_ior (tk K_X11_seatOf 30 rfl) ?_
        have h := h _ rfl
        refine x_istore (L' := [some (vR _), some (vI _), some (vI _), some (vI _), some (vI _), some (vI _)]) (tk K_X11_seatOf 31 rfl) rfl (Nat.le_of_ble_eq_true rfl) rfl ?_
        refine x_iincW (L' := [some (vR _), some (vI _), some (vI _), some (vI _), some (vI _), some (vI _)]) (tk K_X11_seatOf 32 rfl) rfl ic_1 rfl (Nat.le_of_ble_eq_true rfl) rfl ?_
        refine x_goto (t := 6) (tk K_X11_seatOf 33 rfl) rfl ?_
        exact h

theorem b_X11_seatOf_50 {X : Cx} {d kc ns : Nat} {M : Mem} {Q : Option AV → Mem → Prop} {l1 : Int32} {l2 : Int32} {l3 : Int32} {l5 : Int32} {s0 : Int32} (hS : RfS M)
    (h : ∀ x1 : Int32, x1 = (s0 ||| (nI 0)) → WA X d kc ns m_X11_seatOf 6 [some (vR 75), some (vI l1), some (vI l2), some (vI l3), some (vI x1), some (vI (l5 + (nI 1)))] [] M Q) :
    WA X d kc ns m_X11_seatOf 50 [some (vR 75), some (vI l1), some (vI l2), some (vI l3), none, some (vI l5)] [vI s0] M Q := by
  refine x_iconst (tk K_X11_seatOf 29 rfl) ic_0 ?_
  refine x_ior (tk K_X11_seatOf 30 rfl) ?_
  have h := h _ rfl
  refine x_istore (L' := [some (vR _), some (vI _), some (vI _), some (vI _), some (vI _), some (vI _)]) (tk K_X11_seatOf 31 rfl) rfl (Nat.le_of_ble_eq_true rfl) rfl ?_
  refine x_iincW (L' := [some (vR _), some (vI _), some (vI _), some (vI _), some (vI _), some (vI _)]) (tk K_X11_seatOf 32 rfl) rfl ic_1 rfl (Nat.le_of_ble_eq_true rfl) rfl ?_
  refine x_goto (t := 6) (tk K_X11_seatOf 33 rfl) rfl ?_
  exact h

theorem e_X11_seatOf {X : Cx} {d kc ns : Nat} {M : Mem} {Q : Option AV → Mem → Prop} {a1 : Int32} {a2 : Int32} {a3 : Int32} (h : WA X d kc ns m_X11_seatOf 0 [some (vR 75), some (vI a1), some (vI a2), some (vI a3), none, none] [] M Q) : Cl X d kc ns m_X11_seatOf [vR 75, vI a1, vI a2, vI a3] M Q := Cl.intro (k := 2) (by decide) rfl rfl h

-- TwoPencilsModel.isNumbered(III)Z
theorem b_X11_isNumbered_0 {X : Cx} {d kc ns : Nat} {M : Mem} {Q : Option AV → Mem → Prop} {l1 : Int32} {l2 : Int32} {l3 : Int32} (hS : RfS M)
    (h : WA X d kc ns m_X11_isNumbered 6 [some (vR 75), some (vI l1), some (vI l2), some (vI l3), some (vI (nI 0)), some (vI (nI 0)), none] [] M Q) :
    WA X d kc ns m_X11_isNumbered 0 [some (vR 75), some (vI l1), some (vI l2), some (vI l3), none, none, none] [] M Q := by
  refine x_iconst (tk K_X11_isNumbered 0 rfl) ic_0 ?_
  refine x_istore (L' := [some (vR _), some (vI _), some (vI _), some (vI _), some (vI _), none, none]) (tk K_X11_isNumbered 1 rfl) rfl (Nat.le_of_ble_eq_true rfl) rfl ?_
  refine x_iconst (tk K_X11_isNumbered 2 rfl) ic_0 ?_
  refine x_istore (L' := [some (vR _), some (vI _), some (vI _), some (vI _), some (vI _), some (vI _), none]) (tk K_X11_isNumbered 3 rfl) rfl (Nat.le_of_ble_eq_true rfl) rfl ?_
  exact h

theorem b_X11_isNumbered_6 {X : Cx} {d kc ns : Nat} {M : Mem} {Q : Option AV → Mem → Prop} {l1 : Int32} {l2 : Int32} {l3 : Int32} {l4 : Int32} {l5 : Int32} (hS : RfS M) (hd : 1 ≤ d)
    (h : vp_in (mI M 75 19) 7 ∧ (((mI M 77 (ix (mI M 75 19))) ≤ l5 → ((¬ l4 = l3 → Q (some (vI (nI 0))) M) ∧ (l4 = l3 → Q (some (vI (nI 1))) M))) ∧ (¬ (mI M 77 (ix (mI M 75 19))) ≤ l5 → Cl X (d - 1) 0 0 m_X11_digit [vR 75, vI l1, vI l5] M (fun r M1 => ∃ x1 : Int32, r = some (vI x1) ∧ Ext M M1 ∧ ((¬ ((shr l2 l5) &&& (nI 1)) = nI 0 → ((x1 ≤ l4 → ((¬ x1 = l4 → ∀ x2 : Int32, x2 = (l4 + (nI 0)) → WA X d kc ns m_X11_isNumbered 6 [some (vR 75), some (vI l1), some (vI l2), some (vI l3), some (vI x2), some (vI (l5 + (nI 1))), none] [] M1 Q) ∧ (x1 = l4 → ∀ x3 : Int32, x3 = (l4 + (nI 1)) → WA X d kc ns m_X11_isNumbered 6 [some (vR 75), some (vI l1), some (vI l2), some (vI l3), some (vI x3), some (vI (l5 + (nI 1))), none] [] M1 Q))) ∧ (¬ x1 ≤ l4 → Q (some (vI (nI 0))) M1))) ∧ (((shr l2 l5) &&& (nI 1)) = nI 0 → ((x1 = nI 0 → WA X d kc ns m_X11_isNumbered 6 [some (vR 75), some (vI l1), some (vI l2), some (vI l3), some (vI l4), some (vI (l5 + (nI 1))), none] [] M1 Q) ∧ (¬ x1 = nI 0 → Q (some (vI (nI 0))) M1)))))))) :
    WA X d kc ns m_X11_isNumbered 6 [some (vR 75), some (vI l1), some (vI l2), some (vI l3), some (vI l4), some (vI l5), none] [] M Q := by
  refine x_iload (tk K_X11_isNumbered 4 rfl) rfl ?_
  refine x_aload_n (tk K_X11_isNumbered 5 rfl) rfl rfl ?_
  refine x_getRc (tk K_X11_isNumbered 6 rfl) f_X11_13 rfl (RfS.o hS) (RfS.r5 hS) ?_
  refine x_aload_n (tk K_X11_isNumbered 7 rfl) rfl rfl ?_
  refine x_getI (tk K_X11_isNumbered 8 rfl) f_X11_184 rfl (RfS.o hS) ?_
  have hi := h.1
  have h := h.2
  refine x_iald (tk K_X11_isNumbered 9 rfl) (RfS.k5 hS) hi ?_
  refine x_icmp_ge (t := 77) (tk K_X11_isNumbered 10 rfl) rfl (fun hc => ?_) (fun hc => ?_)
  · have h := h.1 hc
    refine x_iload (tk K_X11_isNumbered 42 rfl) rfl ?_
    refine x_iload_n (tk K_X11_isNumbered 43 rfl) rfl rfl ?_
    refine x_icmp_ne (t := 87) (tk K_X11_isNumbered 44 rfl) rfl (fun hc => ?_) (fun hc => ?_)
    · have h := h.1 hc
      refine x_iconst (tk K_X11_isNumbered 47 rfl) ic_0 ?_
      exact x_ireturn (tk K_X11_isNumbered 48 rfl) rfl (fitZ (Or.inl rfl)).1 h
    · have h := h.2 hc
      refine x_iconst (tk K_X11_isNumbered 45 rfl) ic_1 ?_
      refine x_goto (t := 88) (tk K_X11_isNumbered 46 rfl) rfl ?_
      exact x_ireturn (tk K_X11_isNumbered 48 rfl) rfl (fitZ (Or.inr rfl)).1 h
  · have h := h.2 hc
    refine x_aload_n (tk K_X11_isNumbered 11 rfl) rfl rfl ?_
    refine x_iload_n (tk K_X11_isNumbered 12 rfl) rfl rfl ?_
    refine x_iload (tk K_X11_isNumbered 13 rfl) rfl ?_
    refine x_callV0 (As := [vI _, vI _]) (S := []) (tk K_X11_isNumbered 14 rfl) mk_X11_193 mo_X11_digit (RfS.o hS) rfl rfl (Nat.le_of_ble_eq_true rfl) hd h (fun r M1 hq => ?_)
    obtain ⟨x1, rfl, hE, h⟩ := hq
    have hT0 := RfS.ext hS hE
    have hT1 := hE.1 _ _ _ (RfS.k5 hS)
    refine x_istore (L' := [some (vR _), some (vI _), some (vI _), some (vI _), some (vI _), some (vI _), some (vI _)]) (tk K_X11_isNumbered 15 rfl) rfl (Nat.le_of_ble_eq_true rfl) rfl ?_
    refine x_iload_n (tk K_X11_isNumbered 16 rfl) rfl rfl ?_
    refine x_iload (tk K_X11_isNumbered 17 rfl) rfl ?_
    refine x_ishr (tk K_X11_isNumbered 18 rfl) ?_
    refine x_iconst (tk K_X11_isNumbered 19 rfl) ic_1 ?_
    refine x_iand (tk K_X11_isNumbered 20 rfl) ?_
    refine x_if_ne (t := 45) (tk K_X11_isNumbered 21 rfl) rfl (fun hc => ?_) (fun hc => ?_)
    · have h := h.1 hc
      refine x_iload (tk K_X11_isNumbered 26 rfl) rfl ?_
      refine x_iload (tk K_X11_isNumbered 27 rfl) rfl ?_
      refine x_icmp_le (t := 54) (tk K_X11_isNumbered 28 rfl) rfl (fun hc => ?_) (fun hc => ?_)
      · have h := h.1 hc
        refine x_iload (tk K_X11_isNumbered 31 rfl) rfl ?_
        refine x_iload (tk K_X11_isNumbered 32 rfl) rfl ?_
        refine x_iload (tk K_X11_isNumbered 33 rfl) rfl ?_
        refine x_icmp_ne (t := 67) (tk K_X11_isNumbered 34 rfl) rfl (fun hc => ?_) (fun hc => ?_)
        · have h := h.1 hc
          refine x_iconst (tk K_X11_isNumbered 37 rfl) ic_0 ?_
          refine x_iadd (tk K_X11_isNumbered 38 rfl) ?_
          have h := h _ rfl
          refine x_istore (L' := [some (vR _), some (vI _), some (vI _), some (vI _), some (vI _), some (vI _), some (vI _)]) (tk K_X11_isNumbered 39 rfl) rfl (Nat.le_of_ble_eq_true rfl) rfl ?_
          refine x_iincW (L' := [some (vR _), some (vI _), some (vI _), some (vI _), some (vI _), some (vI _), some (vI _)]) (tk K_X11_isNumbered 40 rfl) rfl ic_1 rfl (Nat.le_of_ble_eq_true rfl) rfl ?_
          refine x_goto (t := 6) (tk K_X11_isNumbered 41 rfl) rfl ?_
          refine x_msk [true, true, true, true, true, true, false] ?_
          exact h
        · have h := h.2 hc
          refine x_iconst (tk K_X11_isNumbered 35 rfl) ic_1 ?_
          refine x_goto (t := 68) (tk K_X11_isNumbered 36 rfl) rfl ?_
          refine x_iadd (tk K_X11_isNumbered 38 rfl) ?_
          have h := h _ rfl
          refine x_istore (L' := [some (vR _), some (vI _), some (vI _), some (vI _), some (vI _), some (vI _), some (vI _)]) (tk K_X11_isNumbered 39 rfl) rfl (Nat.le_of_ble_eq_true rfl) rfl ?_
          refine x_iincW (L' := [some (vR _), some (vI _), some (vI _), some (vI _), some (vI _), some (vI _), some (vI _)]) (tk K_X11_isNumbered 40 rfl) rfl ic_1 rfl (Nat.le_of_ble_eq_true rfl) rfl ?_
          refine x_goto (t := 6) (tk K_X11_isNumbered 41 rfl) rfl ?_
          refine x_msk [true, true, true, true, true, true, false] ?_
          exact h
      · have h := h.2 hc
        refine x_iconst (tk K_X11_isNumbered 29 rfl) ic_0 ?_
        exact x_ireturn (tk K_X11_isNumbered 30 rfl) rfl (fitZ (Or.inl rfl)).1 h
    · have h := h.2 hc
      refine x_iload (tk K_X11_isNumbered 22 rfl) rfl ?_
      refine x_if_eq (t := 71) (tk K_X11_isNumbered 23 rfl) rfl (fun hc => ?_) (fun hc => ?_)
      · have h := h.1 hc
        refine x_iincW (L' := [some (vR _), some (vI _), some (vI _), some (vI _), some (vI _), some (vI _), some (vI _)]) (tk K_X11_isNumbered 40 rfl) rfl ic_1 rfl (Nat.le_of_ble_eq_true rfl) rfl ?_
        refine x_goto (t := 6) (tk K_X11_isNumbered 41 rfl) rfl ?_
        refine x_msk [true, true, true, true, true, true, false] ?_
        exact h
      · have h := h.2 hc
        refine x_iconst (tk K_X11_isNumbered 24 rfl) ic_0 ?_
        exact x_ireturn (tk K_X11_isNumbered 25 rfl) rfl (fitZ (Or.inl rfl)).1 h

theorem e_X11_isNumbered {X : Cx} {d kc ns : Nat} {M : Mem} {Q : Option AV → Mem → Prop} {a1 : Int32} {a2 : Int32} {a3 : Int32} (h : WA X d kc ns m_X11_isNumbered 0 [some (vR 75), some (vI a1), some (vI a2), some (vI a3), none, none, none] [] M Q) : Cl X d kc ns m_X11_isNumbered [vR 75, vI a1, vI a2, vI a3] M Q := Cl.intro (k := 3) (by decide) rfl rfl h

-- TwoPencilsModel.isNumber(II)Z
theorem b_X11_isNumber_0 {X : Cx} {d kc ns : Nat} {M : Mem} {Q : Option AV → Mem → Prop} {l1 : Int32} {l2 : Int32} (hS : RfS M) (hd : 1 ≤ d)
    (h : Cl X (d - 1) 0 0 m_X11_isLand [vR 75, vI l1] M (fun r M1 => ∃ x1 : Int32, r = some (vI x1) ∧ Ext M M1 ∧ ((x1 = nI 0 → Q (some (vI (nI 0))) M1) ∧ (¬ x1 = nI 0 → ((l2 < nI 0 → Q (some (vI (nI 0))) M1) ∧ (¬ l2 < nI 0 → vp_in l1 7 ∧ ((¬ (shr l2 ((nI 2) * (mI M1 77 (ix l1)))) = nI 0 → Q (some (vI (nI 0))) M1) ∧ ((shr l2 ((nI 2) * (mI M1 77 (ix l1)))) = nI 0 → Q (some (vI (nI 1))) M1)))))))) :
    WA X d kc ns m_X11_isNumber 0 [some (vR 75), some (vI l1), some (vI l2)] [] M Q := by
  refine x_aload_n (tk K_X11_isNumber 0 rfl) rfl rfl ?_
  refine x_iload_n (tk K_X11_isNumber 1 rfl) rfl rfl ?_
  refine x_callV0 (As := [vI _]) (S := []) (tk K_X11_isNumber 2 rfl) mk_X11_168 mo_X11_isLand (RfS.o hS) rfl rfl (Nat.le_of_ble_eq_true rfl) hd h (fun r M1 hq => ?_)
  obtain ⟨x1, rfl, hE, h⟩ := hq
  have hT0 := RfS.ext hS hE
  refine x_if_eq (t := 29) (tk K_X11_isNumber 3 rfl) rfl (fun hc => ?_) (fun hc => ?_)
  · have h := h.1 hc
    refine x_iconst (tk K_X11_isNumber 17 rfl) ic_0 ?_
    exact x_ireturn (tk K_X11_isNumber 18 rfl) rfl (fitZ (Or.inl rfl)).1 h
  · have h := h.2 hc
    refine x_iload_n (tk K_X11_isNumber 4 rfl) rfl rfl ?_
    refine x_if_lt (t := 29) (tk K_X11_isNumber 5 rfl) rfl (fun hc => ?_) (fun hc => ?_)
    · have h := h.1 hc
      refine x_iconst (tk K_X11_isNumber 17 rfl) ic_0 ?_
      exact x_ireturn (tk K_X11_isNumber 18 rfl) rfl (fitZ (Or.inl rfl)).1 h
    · have h := h.2 hc
      refine x_iload_n (tk K_X11_isNumber 6 rfl) rfl rfl ?_
      refine x_iconst (tk K_X11_isNumber 7 rfl) ic_2 ?_
      refine x_aload_n (tk K_X11_isNumber 8 rfl) rfl rfl ?_
      refine x_getRc (tk K_X11_isNumber 9 rfl) f_X11_13 rfl (RfS.o hT0) (RfS.r5 hT0) ?_
      refine x_iload_n (tk K_X11_isNumber 10 rfl) rfl rfl ?_
      have hi := h.1
      have h := h.2
      refine x_iald (tk K_X11_isNumber 11 rfl) (RfS.k5 hT0) hi ?_
      refine x_imul (tk K_X11_isNumber 12 rfl) ?_
      refine x_ishr (tk K_X11_isNumber 13 rfl) ?_
      refine x_if_ne (t := 29) (tk K_X11_isNumber 14 rfl) rfl (fun hc => ?_) (fun hc => ?_)
      · have h := h.1 hc
        refine x_iconst (tk K_X11_isNumber 17 rfl) ic_0 ?_
        exact x_ireturn (tk K_X11_isNumber 18 rfl) rfl (fitZ (Or.inl rfl)).1 h
      · have h := h.2 hc
        refine x_iconst (tk K_X11_isNumber 15 rfl) ic_1 ?_
        refine x_goto (t := 30) (tk K_X11_isNumber 16 rfl) rfl ?_
        exact x_ireturn (tk K_X11_isNumber 18 rfl) rfl (fitZ (Or.inr rfl)).1 h

theorem e_X11_isNumber {X : Cx} {d kc ns : Nat} {M : Mem} {Q : Option AV → Mem → Prop} {a1 : Int32} {a2 : Int32} (h : WA X d kc ns m_X11_isNumber 0 [some (vR 75), some (vI a1), some (vI a2)] [] M Q) : Cl X d kc ns m_X11_isNumber [vR 75, vI a1, vI a2] M Q := Cl.intro (k := 0) (by decide) rfl rfl h

-- TwoPencilsModel.isCut(III)Z
theorem b_X11_isCut_0 {X : Cx} {d kc ns : Nat} {M : Mem} {Q : Option AV → Mem → Prop} {l1 : Int32} {l2 : Int32} {l3 : Int32} (hS : RfS M) (hd : 1 ≤ d)
    (h : ((l1 < nI 0 → Q (some (vI (nI 0))) M) ∧ (¬ l1 < nI 0 → vp_in (mI M 75 19) 7 ∧ ((¬ (shr l1 ((nI 2) * (mI M 77 (ix (mI M 75 19))))) = nI 0 → Q (some (vI (nI 0))) M) ∧ ((shr l1 ((nI 2) * (mI M 77 (ix (mI M 75 19))))) = nI 0 → Cl X (d - 1) 0 0 m_X11_isNumbered [vR 75, vI l1, vI l2, vI l3] M (fun r M1 => ∃ x1 : Int32, r = some (vI x1) ∧ Ext M M1 ∧ ((¬ x1 = nI 0 → WA X d kc ns m_X11_isCut 35 [some (vR 75), some (vI l1), some (vI l2), some (vI l3), some (vI (nI 0))] [] M1 Q) ∧ (x1 = nI 0 → Q (some (vI (nI 0))) M1)))))))) :
    WA X d kc ns m_X11_isCut 0 [some (vR 75), some (vI l1), some (vI l2), some (vI l3), none] [] M Q := by
  refine x_iload_n (tk K_X11_isCut 0 rfl) rfl rfl ?_
  refine x_if_lt (t := 30) (tk K_X11_isCut 1 rfl) rfl (fun hc => ?_) (fun hc => ?_)
  · have h := h.1 hc
    refine x_iconst (tk K_X11_isCut 18 rfl) ic_0 ?_
    exact x_ireturn (tk K_X11_isCut 19 rfl) rfl (fitZ (Or.inl rfl)).1 h
  · have h := h.2 hc
    refine x_iload_n (tk K_X11_isCut 2 rfl) rfl rfl ?_
    refine x_iconst (tk K_X11_isCut 3 rfl) ic_2 ?_
    refine x_aload_n (tk K_X11_isCut 4 rfl) rfl rfl ?_
    refine x_getRc (tk K_X11_isCut 5 rfl) f_X11_13 rfl (RfS.o hS) (RfS.r5 hS) ?_
    refine x_aload_n (tk K_X11_isCut 6 rfl) rfl rfl ?_
    refine x_getI (tk K_X11_isCut 7 rfl) f_X11_184 rfl (RfS.o hS) ?_
    have hi := h.1
    have h := h.2
    refine x_iald (tk K_X11_isCut 8 rfl) (RfS.k5 hS) hi ?_
    refine x_imul (tk K_X11_isCut 9 rfl) ?_
    refine x_ishr (tk K_X11_isCut 10 rfl) ?_
    refine x_if_ne (t := 30) (tk K_X11_isCut 11 rfl) rfl (fun hc => ?_) (fun hc => ?_)
    · have h := h.1 hc
      refine x_iconst (tk K_X11_isCut 18 rfl) ic_0 ?_
      exact x_ireturn (tk K_X11_isCut 19 rfl) rfl (fitZ (Or.inl rfl)).1 h
    · have h := h.2 hc
      refine x_aload_n (tk K_X11_isCut 12 rfl) rfl rfl ?_
      refine x_iload_n (tk K_X11_isCut 13 rfl) rfl rfl ?_
      refine x_iload_n (tk K_X11_isCut 14 rfl) rfl rfl ?_
      refine x_iload_n (tk K_X11_isCut 15 rfl) rfl rfl ?_
      refine x_callV0 (As := [vI _, vI _, vI _]) (S := []) (tk K_X11_isCut 16 rfl) mk_X11_196 mo_X11_isNumbered (RfS.o hS) rfl rfl (Nat.le_of_ble_eq_true rfl) hd h (fun r M1 hq => ?_)
      obtain ⟨x1, rfl, hE, h⟩ := hq
      have hT0 := RfS.ext hS hE
      have hT1 := hE.1 _ _ _ (RfS.k5 hS)
      refine x_if_ne (t := 32) (tk K_X11_isCut 17 rfl) rfl (fun hc => ?_) (fun hc => ?_)
      · have h := h.1 hc
        refine x_iconst (tk K_X11_isCut 20 rfl) ic_0 ?_
        refine x_istore (L' := [some (vR _), some (vI _), some (vI _), some (vI _), some (vI _)]) (tk K_X11_isCut 21 rfl) rfl (Nat.le_of_ble_eq_true rfl) rfl ?_
        exact h
      · have h := h.2 hc
        refine x_iconst (tk K_X11_isCut 18 rfl) ic_0 ?_
        exact x_ireturn (tk K_X11_isCut 19 rfl) rfl (fitZ (Or.inl rfl)).1 h

theorem b_X11_isCut_35 {X : Cx} {d kc ns : Nat} {M : Mem} {Q : Option AV → Mem → Prop} {l1 : Int32} {l2 : Int32} {l3 : Int32} {l4 : Int32} (hS : RfS M) (hd : 1 ≤ d)
    (h : ((l3 ≤ l4 → Q (some (vI (nI 1))) M) ∧ (¬ l3 ≤ l4 → Cl X (d - 1) 0 0 m_X11_seatOf [vR 75, vI l1, vI l2, vI l4] M (fun r M1 => ∃ x1 : Int32, r = some (vI x1) ∧ Ext M M1 ∧ vp_in x1 512 ∧ (((mI M1 87 (ix x1)) = nI 0 → WA X d kc ns m_X11_isCut 35 [some (vR 75), some (vI l1), some (vI l2), some (vI l3), some (vI (l4 + (nI 1)))] [] M1 Q) ∧ (¬ (mI M1 87 (ix x1)) = nI 0 → Q (some (vI (nI 0))) M1)))))) :
    WA X d kc ns m_X11_isCut 35 [some (vR 75), some (vI l1), some (vI l2), some (vI l3), some (vI l4)] [] M Q := by
  refine x_iload (tk K_X11_isCut 22 rfl) rfl ?_
  refine x_iload_n (tk K_X11_isCut 23 rfl) rfl rfl ?_
  refine x_icmp_ge (t := 65) (tk K_X11_isCut 24 rfl) rfl (fun hc => ?_) (fun hc => ?_)
  · have h := h.1 hc
    refine x_iconst (tk K_X11_isCut 38 rfl) ic_1 ?_
    exact x_ireturn (tk K_X11_isCut 39 rfl) rfl (fitZ (Or.inr rfl)).1 h
  · have h := h.2 hc
    refine x_aload_n (tk K_X11_isCut 25 rfl) rfl rfl ?_
    refine x_getRc (tk K_X11_isCut 26 rfl) f_X11_43 rfl (RfS.o hS) (RfS.r17 hS) ?_
    refine x_aload_n (tk K_X11_isCut 27 rfl) rfl rfl ?_
    refine x_iload_n (tk K_X11_isCut 28 rfl) rfl rfl ?_
    refine x_iload_n (tk K_X11_isCut 29 rfl) rfl rfl ?_
    refine x_iload (tk K_X11_isCut 30 rfl) rfl ?_
    refine x_callV0 (As := [vI _, vI _, vI _]) (S := [vR _]) (tk K_X11_isCut 31 rfl) mk_X11_199 mo_X11_seatOf (RfS.o hS) rfl rfl (Nat.le_of_ble_eq_true rfl) hd h (fun r M1 hq => ?_)
    obtain ⟨x1, rfl, hE, h⟩ := hq
    have hT0 := RfS.ext hS hE
    have hT1 := hE.1 _ _ _ (RfS.k17 hS)
    have hi := h.1
    have h := h.2
    refine x_iald (tk K_X11_isCut 32 rfl) hT1 hi ?_
    refine x_if_eq (t := 59) (tk K_X11_isCut 33 rfl) rfl (fun hc => ?_) (fun hc => ?_)
    · have h := h.1 hc
      refine x_iincW (L' := [some (vR _), some (vI _), some (vI _), some (vI _), some (vI _)]) (tk K_X11_isCut 36 rfl) rfl ic_1 rfl (Nat.le_of_ble_eq_true rfl) rfl ?_
      refine x_goto (t := 35) (tk K_X11_isCut 37 rfl) rfl ?_
      exact h
    · have h := h.2 hc
      refine x_iconst (tk K_X11_isCut 34 rfl) ic_0 ?_
      exact x_ireturn (tk K_X11_isCut 35 rfl) rfl (fitZ (Or.inl rfl)).1 h

theorem e_X11_isCut {X : Cx} {d kc ns : Nat} {M : Mem} {Q : Option AV → Mem → Prop} {a1 : Int32} {a2 : Int32} {a3 : Int32} (h : WA X d kc ns m_X11_isCut 0 [some (vR 75), some (vI a1), some (vI a2), some (vI a3), none] [] M Q) : Cl X d kc ns m_X11_isCut [vR 75, vI a1, vI a2, vI a3] M Q := Cl.intro (k := 1) (by decide) rfl rfl h

-- TwoPencilsModel.listFrom(IIIIII)V
theorem b_X11_listFrom_0 {X : Cx} {d kc ns : Nat} {M : Mem} {Q : Option AV → Mem → Prop} {l1 : Int32} {l2 : Int32} {l3 : Int32} {l4 : Int32} {l5 : Int32} {l6 : Int32} (hS : RfS M) (hd : 1 ≤ d)
    (h : vp_in (mI M 75 19) 7 ∧ ((¬ l2 = (mI M 77 (ix (mI M 75 19))) → ((¬ ((shr l3 l2) &&& (nI 1)) = nI 0 → WA X d kc ns m_X11_listFrom 137 [some (vR 75), some (vI l1), some (vI l2), some (vI l3), some (vI l4), some (vI l5), some (vI l6), some (vI (nI 0)), none] [] M Q) ∧ (((shr l3 l2) &&& (nI 1)) = nI 0 → Cl X (d - 1) 0 0 m_X11_listFrom [vR 75, vI l1, vI (l2 + (nI 1)), vI l3, vI l4, vI l5, vI ((nI 4) * l6)] M (fun r M1 => r = none ∧ Ext M M1 ∧ Q none M1)))) ∧ (l2 = (mI M 77 (ix (mI M 75 19))) → ((¬ l5 = l4 → WA X d kc ns m_X11_listFrom 30 [some (vR 75), some (vI l1), none, none, some (vI l4), none, some (vI l6), some (vI (nI 0)), some (vI (nI 0))] [] M Q) ∧ (l5 = l4 → WA X d kc ns m_X11_listFrom 30 [some (vR 75), some (vI l1), none, none, some (vI l4), none, some (vI l6), some (vI (nI 1)), some (vI (nI 0))] [] M Q))))) :
    WA X d kc ns m_X11_listFrom 0 [some (vR 75), some (vI l1), some (vI l2), some (vI l3), some (vI l4), some (vI l5), some (vI l6), none, none] [] M Q := by
  refine x_iload_n (tk K_X11_listFrom 0 rfl) rfl rfl ?_
  refine x_aload_n (tk K_X11_listFrom 1 rfl) rfl rfl ?_
  refine x_getRc (tk K_X11_listFrom 2 rfl) f_X11_13 rfl (RfS.o hS) (RfS.r5 hS) ?_
  refine x_aload_n (tk K_X11_listFrom 3 rfl) rfl rfl ?_
  refine x_getI (tk K_X11_listFrom 4 rfl) f_X11_184 rfl (RfS.o hS) ?_
  have hi := h.1
  have h := h.2
  refine x_iald (tk K_X11_listFrom 5 rfl) (RfS.k5 hS) hi ?_
  refine x_icmp_ne (t := 108) (tk K_X11_listFrom 6 rfl) rfl (fun hc => ?_) (fun hc => ?_)
  · have h := h.1 hc
    refine x_iload_n (tk K_X11_listFrom 58 rfl) rfl rfl ?_
    refine x_iload_n (tk K_X11_listFrom 59 rfl) rfl rfl ?_
    refine x_ishr (tk K_X11_listFrom 60 rfl) ?_
    refine x_iconst (tk K_X11_listFrom 61 rfl) ic_1 ?_
    refine x_iand (tk K_X11_listFrom 62 rfl) ?_
    refine x_if_ne (t := 134) (tk K_X11_listFrom 63 rfl) rfl (fun hc => ?_) (fun hc => ?_)
    · have h := h.1 hc
      refine x_iconst (tk K_X11_listFrom 77 rfl) ic_0 ?_
      refine x_istore (L' := [some (vR _), some (vI _), some (vI _), some (vI _), some (vI _), some (vI _), some (vI _), some (vI _), none]) (tk K_X11_listFrom 78 rfl) rfl (Nat.le_of_ble_eq_true rfl) rfl ?_
      exact h
    · have h := h.2 hc
      refine x_aload_n (tk K_X11_listFrom 64 rfl) rfl rfl ?_
      refine x_iload_n (tk K_X11_listFrom 65 rfl) rfl rfl ?_
      refine x_iload_n (tk K_X11_listFrom 66 rfl) rfl rfl ?_
      refine x_iconst (tk K_X11_listFrom 67 rfl) ic_1 ?_
      refine x_iadd (tk K_X11_listFrom 68 rfl) ?_
      refine x_iload_n (tk K_X11_listFrom 69 rfl) rfl rfl ?_
      refine x_iload (tk K_X11_listFrom 70 rfl) rfl ?_
      refine x_iload (tk K_X11_listFrom 71 rfl) rfl ?_
      refine x_iconst (tk K_X11_listFrom 72 rfl) ic_4 ?_
      refine x_iload (tk K_X11_listFrom 73 rfl) rfl ?_
      refine x_imul (tk K_X11_listFrom 74 rfl) ?_
      refine x_callV0 (As := [vI _, vI _, vI _, vI _, vI _, vI _]) (S := []) (tk K_X11_listFrom 75 rfl) mk_X11_205 mo_X11_listFrom (RfS.o hS) rfl rfl (Nat.le_of_ble_eq_true rfl) hd h (fun r M1 hq => ?_)
      obtain ⟨rfl, hE, h⟩ := hq
      have hT0 := RfS.ext hS hE
      have hT1 := hE.1 _ _ _ (RfS.k5 hS)
      exact x_return (tk K_X11_listFrom 76 rfl) rfl h
  · have h := h.2 hc
    refine x_iload (tk K_X11_listFrom 7 rfl) rfl ?_
    refine x_iload (tk K_X11_listFrom 8 rfl) rfl ?_
    refine x_icmp_ne (t := 24) (tk K_X11_listFrom 9 rfl) rfl (fun hc => ?_) (fun hc => ?_)
    · have h := h.1 hc
      refine x_iconst (tk K_X11_listFrom 12 rfl) ic_0 ?_
      refine x_istore (L' := [some (vR _), some (vI _), some (vI _), some (vI _), some (vI _), some (vI _), some (vI _), some (vI _), none]) (tk K_X11_listFrom 13 rfl) rfl (Nat.le_of_ble_eq_true rfl) rfl ?_
      refine x_iconst (tk K_X11_listFrom 14 rfl) ic_0 ?_
      refine x_istore (L' := [some (vR _), some (vI _), some (vI _), some (vI _), some (vI _), some (vI _), some (vI _), some (vI _), some (vI _)]) (tk K_X11_listFrom 15 rfl) rfl (Nat.le_of_ble_eq_true rfl) rfl ?_
      refine x_msk [true, true, false, false, true, false, true, true, true] ?_
      exact h
    · have h := h.2 hc
      refine x_iconst (tk K_X11_listFrom 10 rfl) ic_1 ?_
      refine x_goto (t := 25) (tk K_X11_listFrom 11 rfl) rfl ?_
      refine x_istore (L' := [some (vR _), some (vI _), some (vI _), some (vI _), some (vI _), some (vI _), some (vI _), some (vI _), none]) (tk K_X11_listFrom 13 rfl) rfl (Nat.le_of_ble_eq_true rfl) rfl ?_
      refine x_iconst (tk K_X11_listFrom 14 rfl) ic_0 ?_
      refine x_istore (L' := [some (vR _), some (vI _), some (vI _), some (vI _), some (vI _), some (vI _), some (vI _), some (vI _), some (vI _)]) (tk K_X11_listFrom 15 rfl) rfl (Nat.le_of_ble_eq_true rfl) rfl ?_
      refine x_msk [true, true, false, false, true, false, true, true, true] ?_
      exact h

theorem b_X11_listFrom_30 {X : Cx} {d kc ns : Nat} {M : Mem} {Q : Option AV → Mem → Prop} {l1 : Int32} {l4 : Int32} {l6 : Int32} {l7 : Int32} {l8 : Int32} (hS : RfS M)
    (h : ((l4 ≤ l8 → WA X d kc ns m_X11_listFrom 75 [some (vR 75), some (vI l1), none, none, none, none, some (vI l6), some (vI l7), none] [] M Q) ∧ (¬ l4 ≤ l8 → ((l7 = nI 0 → WA X d kc ns m_X11_listFrom 75 [some (vR 75), some (vI l1), none, none, none, none, some (vI l6), some (vI l7), none] [] M Q) ∧ (¬ l7 = nI 0 → vp_in (((nI 8) * l1) + l8) 40 ∧ vp_in (mI M 90 (ix (((nI 8) * l1) + l8))) 512 ∧ ((¬ (mI M 87 (ix (mI M 90 (ix (((nI 8) * l1) + l8))))) = nI 0 → WA X d kc ns m_X11_listFrom 30 [some (vR 75), some (vI l1), none, none, some (vI l4), none, some (vI l6), some (vI (nI 0)), some (vI (l8 + (nI 1)))] [] M Q) ∧ ((mI M 87 (ix (mI M 90 (ix (((nI 8) * l1) + l8))))) = nI 0 → WA X d kc ns m_X11_listFrom 30 [some (vR 75), some (vI l1), none, none, some (vI l4), none, some (vI l6), some (vI (nI 1)), some (vI (l8 + (nI 1)))] [] M Q))))))) :
    WA X d kc ns m_X11_listFrom 30 [some (vR 75), some (vI l1), none, none, some (vI l4), none, some (vI l6), some (vI l7), some (vI l8)] [] M Q := by
  refine x_iload (tk K_X11_listFrom 16 rfl) rfl ?_
  refine x_iload (tk K_X11_listFrom 17 rfl) rfl ?_
  refine x_icmp_ge (t := 75) (tk K_X11_listFrom 18 rfl) rfl (fun hc => ?_) (fun hc => ?_)
  · have h := h.1 hc
    refine x_msk [true, true, false, false, false, false, true, true, false] ?_
    exact h
  · have h := h.2 hc
    refine x_iload (tk K_X11_listFrom 19 rfl) rfl ?_
    refine x_if_eq (t := 75) (tk K_X11_listFrom 20 rfl) rfl (fun hc => ?_) (fun hc => ?_)
    · have h := h.1 hc
      refine x_msk [true, true, false, false, false, false, true, true, false] ?_
      exact h
    · have h := h.2 hc
      refine x_aload_n (tk K_X11_listFrom 21 rfl) rfl rfl ?_
      refine x_getRc (tk K_X11_listFrom 22 rfl) f_X11_43 rfl (RfS.o hS) (RfS.r17 hS) ?_
      refine x_aload_n (tk K_X11_listFrom 23 rfl) rfl rfl ?_
      refine x_getRc (tk K_X11_listFrom 24 rfl) f_X11_53 rfl (RfS.o hS) (RfS.r21 hS) ?_
      refine x_bipush (tk K_X11_listFrom 25 rfl) bp_8 ?_
      refine x_iload_n (tk K_X11_listFrom 26 rfl) rfl rfl ?_
      refine x_imul (tk K_X11_listFrom 27 rfl) ?_
      refine x_iload (tk K_X11_listFrom 28 rfl) rfl ?_
      refine x_iadd (tk K_X11_listFrom 29 rfl) ?_
      have hi := h.1
      have h := h.2
      refine x_iald (tk K_X11_listFrom 30 rfl) (RfS.k21 hS) hi ?_
      have hi := h.1
      have h := h.2
      refine x_iald (tk K_X11_listFrom 31 rfl) (RfS.k17 hS) hi ?_
      refine x_if_ne (t := 66) (tk K_X11_listFrom 32 rfl) rfl (fun hc => ?_) (fun hc => ?_)
      · have h := h.1 hc
        refine x_iconst (tk K_X11_listFrom 35 rfl) ic_0 ?_
        refine x_istore (L' := [some (vR _), some (vI _), none, none, some (vI _), none, some (vI _), some (vI _), some (vI _)]) (tk K_X11_listFrom 36 rfl) rfl (Nat.le_of_ble_eq_true rfl) rfl ?_
        refine x_iincW (L' := [some (vR _), some (vI _), none, none, some (vI _), none, some (vI _), some (vI _), some (vI _)]) (tk K_X11_listFrom 37 rfl) rfl ic_1 rfl (Nat.le_of_ble_eq_true rfl) rfl ?_
        refine x_goto (t := 30) (tk K_X11_listFrom 38 rfl) rfl ?_
        exact h
      · have h := h.2 hc
        refine x_iconst (tk K_X11_listFrom 33 rfl) ic_1 ?_
        refine x_goto (t := 67) (tk K_X11_listFrom 34 rfl) rfl ?_
        refine x_istore (L' := [some (vR _), some (vI _), none, none, some (vI _), none, some (vI _), some (vI _), some (vI _)]) (tk K_X11_listFrom 36 rfl) rfl (Nat.le_of_ble_eq_true rfl) rfl ?_
        refine x_iincW (L' := [some (vR _), some (vI _), none, none, some (vI _), none, some (vI _), some (vI _), some (vI _)]) (tk K_X11_listFrom 37 rfl) rfl ic_1 rfl (Nat.le_of_ble_eq_true rfl) rfl ?_
        refine x_goto (t := 30) (tk K_X11_listFrom 38 rfl) rfl ?_
        exact h

theorem b_X11_listFrom_75 {X : Cx} {d kc ns : Nat} {M : Mem} {Q : Option AV → Mem → Prop} {l1 : Int32} {l6 : Int32} {l7 : Int32} (hS : RfS M)
    (h : ((l7 = nI 0 → Q none M) ∧ (¬ l7 = nI 0 → vp_in (((nI 8000) * l1) + (mI M 75 22)) 40000 ∧ ∀ M1 : Mem, M1 = sI M 89 (ix (((nI 8000) * l1) + (mI M 75 22))) l6 → ∀ M2 : Mem, M2 = sI M1 75 22 ((mI M1 75 22) + (nI 1)) → Q none M2))) :
    WA X d kc ns m_X11_listFrom 75 [some (vR 75), some (vI l1), none, none, none, none, some (vI l6), some (vI l7), none] [] M Q := by
  refine x_iload (tk K_X11_listFrom 39 rfl) rfl ?_
  refine x_if_eq (t := 107) (tk K_X11_listFrom 40 rfl) rfl (fun hc => ?_) (fun hc => ?_)
  · have h := h.1 hc
    exact x_return (tk K_X11_listFrom 57 rfl) rfl h
  · have h := h.2 hc
    refine x_aload_n (tk K_X11_listFrom 41 rfl) rfl rfl ?_
    refine x_getRc (tk K_X11_listFrom 42 rfl) f_X11_50 rfl (RfS.o hS) (RfS.r20 hS) ?_
    refine x_sipush (tk K_X11_listFrom 43 rfl) sp_8000 ?_
    refine x_iload_n (tk K_X11_listFrom 44 rfl) rfl rfl ?_
    refine x_imul (tk K_X11_listFrom 45 rfl) ?_
    refine x_aload_n (tk K_X11_listFrom 46 rfl) rfl rfl ?_
    refine x_getI (tk K_X11_listFrom 47 rfl) f_X11_202 rfl (RfS.o hS) ?_
    refine x_iadd (tk K_X11_listFrom 48 rfl) ?_
    refine x_iload (tk K_X11_listFrom 49 rfl) rfl ?_
    have hi := h.1
    have h := h.2
    have h := h _ rfl
    refine x_iast (tk K_X11_listFrom 50 rfl) (RfS.k20 hS) hi ?_
    refine x_aload_n (tk K_X11_listFrom 51 rfl) rfl rfl ?_
    refine x_dup (tk K_X11_listFrom 52 rfl) rfl ?_
    refine x_getI (tk K_X11_listFrom 53 rfl) f_X11_202 rfl (RfS.o hS) ?_
    refine x_iconst (tk K_X11_listFrom 54 rfl) ic_1 ?_
    refine x_iadd (tk K_X11_listFrom 55 rfl) ?_
    have h := h _ rfl
    refine x_putI (tk K_X11_listFrom 56 rfl) f_X11_202 rfl (Or.inl rfl) (RfS.o hS) ?_
    exact x_return (tk K_X11_listFrom 57 rfl) rfl h

theorem b_X11_listFrom_137 {X : Cx} {d kc ns : Nat} {M : Mem} {Q : Option AV → Mem → Prop} {l1 : Int32} {l2 : Int32} {l3 : Int32} {l4 : Int32} {l5 : Int32} {l6 : Int32} {l7 : Int32} (hS : RfS M) (hd : 1 ≤ d)
    (h : ((l5 < l7 → Q none M) ∧ (¬ l5 < l7 → ((l4 ≤ l7 → Q none M) ∧ (¬ l4 ≤ l7 → vp_in (((nI 8) * l1) + l7) 40 ∧ vp_in (((nI 8) * l1) + l7) 40 ∧ ∀ M1 : Mem, M1 = sI M 90 (ix (((nI 8) * l1) + l7)) ((mI M 90 (ix (((nI 8) * l1) + l7))) ||| (shl (nI 1) l2)) → Cl X (d - 1) 0 0 m_X11_listFrom [vR 75, vI l1, vI (l2 + (nI 1)), vI l3, vI l4, vI (maxI l5 (l7 + (nI 1))), vI (((nI 4) * l6) + l7)] M1 (fun r M2 => r = none ∧ Ext M1 M2 ∧ vp_in (((nI 8) * l1) + l7) 40 ∧ vp_in (((nI 8) * l1) + l7) 40 ∧ ∀ M3 : Mem, M3 = sI M2 90 (ix (((nI 8) * l1) + l7)) ((mI M2 90 (ix (((nI 8) * l1) + l7))) &&& ((shl (nI 1) l2) ^^^ (-1))) → WA X d kc ns m_X11_listFrom 137 [some (vR 75), some (vI l1), some (vI l2), some (vI l3), some (vI l4), some (vI l5), some (vI l6), some (vI (l7 + (nI 1))), none] [] M3 Q)))))) :
    WA X d kc ns m_X11_listFrom 137 [some (vR 75), some (vI l1), some (vI l2), some (vI l3), some (vI l4), some (vI l5), some (vI l6), some (vI l7), none] [] M Q := by
  refine x_iload (tk K_X11_listFrom 79 rfl) rfl ?_
  refine x_iload (tk K_X11_listFrom 80 rfl) rfl ?_
  refine x_icmp_gt (t := 222) (tk K_X11_listFrom 81 rfl) rfl (fun hc => ?_) (fun hc => ?_)
  · have h := h.1 hc
    exact x_return (tk K_X11_listFrom 135 rfl) rfl h
  · have h := h.2 hc
    refine x_iload (tk K_X11_listFrom 82 rfl) rfl ?_
    refine x_iload (tk K_X11_listFrom 83 rfl) rfl ?_
    refine x_icmp_ge (t := 222) (tk K_X11_listFrom 84 rfl) rfl (fun hc => ?_) (fun hc => ?_)
    · have h := h.1 hc
      exact x_return (tk K_X11_listFrom 135 rfl) rfl h
    · have h := h.2 hc
      refine x_aload_n (tk K_X11_listFrom 85 rfl) rfl rfl ?_
      refine x_getRc (tk K_X11_listFrom 86 rfl) f_X11_53 rfl (RfS.o hS) (RfS.r21 hS) ?_
      refine x_bipush (tk K_X11_listFrom 87 rfl) bp_8 ?_
      refine x_iload_n (tk K_X11_listFrom 88 rfl) rfl rfl ?_
      refine x_imul (tk K_X11_listFrom 89 rfl) ?_
      refine x_iload (tk K_X11_listFrom 90 rfl) rfl ?_
      refine x_iadd (tk K_X11_listFrom 91 rfl) ?_
      refine x_dup2 (tk K_X11_listFrom 92 rfl) rfl rfl ?_
      have hi := h.1
      have h := h.2
      refine x_iald (tk K_X11_listFrom 93 rfl) (RfS.k21 hS) hi ?_
      refine x_iconst (tk K_X11_listFrom 94 rfl) ic_1 ?_
      refine x_iload_n (tk K_X11_listFrom 95 rfl) rfl rfl ?_
      refine x_ishl (tk K_X11_listFrom 96 rfl) ?_
      refine x_ior (tk K_X11_listFrom 97 rfl) ?_
      have hi := h.1
      have h := h.2
      have h := h _ rfl
      refine x_iast (tk K_X11_listFrom 98 rfl) (RfS.k21 hS) hi ?_
      refine x_aload_n (tk K_X11_listFrom 99 rfl) rfl rfl ?_
      refine x_iload_n (tk K_X11_listFrom 100 rfl) rfl rfl ?_
      refine x_iload_n (tk K_X11_listFrom 101 rfl) rfl rfl ?_
      refine x_iconst (tk K_X11_listFrom 102 rfl) ic_1 ?_
      refine x_iadd (tk K_X11_listFrom 103 rfl) ?_
      refine x_iload_n (tk K_X11_listFrom 104 rfl) rfl rfl ?_
      refine x_iload (tk K_X11_listFrom 105 rfl) rfl ?_
      refine x_iload (tk K_X11_listFrom 106 rfl) rfl ?_
      refine x_iload (tk K_X11_listFrom 107 rfl) rfl ?_
      refine x_iconst (tk K_X11_listFrom 108 rfl) ic_1 ?_
      refine x_iadd (tk K_X11_listFrom 109 rfl) ?_
      refine x_mmax (tk K_X11_listFrom 110 rfl) mx_X11_181 mx_max_st mx_max_co hd (Nat.le_of_ble_eq_true rfl) ?_
      refine x_iconst (tk K_X11_listFrom 111 rfl) ic_4 ?_
      refine x_iload (tk K_X11_listFrom 112 rfl) rfl ?_
      refine x_imul (tk K_X11_listFrom 113 rfl) ?_
      refine x_iload (tk K_X11_listFrom 114 rfl) rfl ?_
      refine x_iadd (tk K_X11_listFrom 115 rfl) ?_
      refine x_callV0 (As := [vI _, vI _, vI _, vI _, vI _, vI _]) (S := []) (tk K_X11_listFrom 116 rfl) mk_X11_205 mo_X11_listFrom (RfS.o hS) rfl rfl (Nat.le_of_ble_eq_true rfl) hd h (fun r M2 hq => ?_)
      obtain ⟨rfl, hE, h⟩ := hq
      have hT0 := RfS.ext hS hE
      have hT1 := hE.1 _ _ _ (RfS.k21 hS)
      refine x_aload_n (tk K_X11_listFrom 117 rfl) rfl rfl ?_
      refine x_getRc (tk K_X11_listFrom 118 rfl) f_X11_53 rfl (RfS.o hT0) (RfS.r21 hT0) ?_
      refine x_bipush (tk K_X11_listFrom 119 rfl) bp_8 ?_
      refine x_iload_n (tk K_X11_listFrom 120 rfl) rfl rfl ?_
      refine x_imul (tk K_X11_listFrom 121 rfl) ?_
      refine x_iload (tk K_X11_listFrom 122 rfl) rfl ?_
      refine x_iadd (tk K_X11_listFrom 123 rfl) ?_
      refine x_dup2 (tk K_X11_listFrom 124 rfl) rfl rfl ?_
      have hi := h.1
      have h := h.2
      refine x_iald (tk K_X11_listFrom 125 rfl) (RfS.k21 hT0) hi ?_
      refine x_iconst (tk K_X11_listFrom 126 rfl) ic_1 ?_
      refine x_iload_n (tk K_X11_listFrom 127 rfl) rfl rfl ?_
      refine x_ishl (tk K_X11_listFrom 128 rfl) ?_
      refine x_iconst (tk K_X11_listFrom 129 rfl) ic_m1 ?_
      refine x_ixor (tk K_X11_listFrom 130 rfl) ?_
      refine x_iand (tk K_X11_listFrom 131 rfl) ?_
      have hi := h.1
      have h := h.2
      have h := h _ rfl
      refine x_iast (tk K_X11_listFrom 132 rfl) (RfS.k21 hT0) hi ?_
      refine x_iincW (L' := [some (vR _), some (vI _), some (vI _), some (vI _), some (vI _), some (vI _), some (vI _), some (vI _), none]) (tk K_X11_listFrom 133 rfl) rfl ic_1 rfl (Nat.le_of_ble_eq_true rfl) rfl ?_
      refine x_goto (t := 137) (tk K_X11_listFrom 134 rfl) rfl ?_
      exact h

theorem e_X11_listFrom {X : Cx} {d kc ns : Nat} {M : Mem} {Q : Option AV → Mem → Prop} {a1 : Int32} {a2 : Int32} {a3 : Int32} {a4 : Int32} {a5 : Int32} {a6 : Int32} (h : WA X d kc ns m_X11_listFrom 0 [some (vR 75), some (vI a1), some (vI a2), some (vI a3), some (vI a4), some (vI a5), some (vI a6), none, none] [] M Q) : Cl X d kc ns m_X11_listFrom [vR 75, vI a1, vI a2, vI a3, vI a4, vI a5, vI a6] M Q := Cl.intro (k := 2) (by decide) rfl rfl h
