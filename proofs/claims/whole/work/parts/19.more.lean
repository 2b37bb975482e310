/-! a lookupswitch of three -/
theorem x_lookup3 {X : Cx} {d kc ns : Nat} {mt : MT} {pc n : Nat} {L : List (Option AV)} {S : List AV} {M : Mem} {Q : Option AV → Mem → Prop} {x : Int32} {dflt a b c oa ob oc : Int} {len ta tb tc td : Nat} (hd : DC mt.2.1 pc (.lookupswitch dflt #[(a, oa), (b, ob), (c, oc)]) len n) (hs : (decide (a < b) && decide (b < c)) = true) (ga : tg pc oa ta) (gb : tg pc ob tb) (gc : tg pc oc tc) (gd : tg pc dflt td)
    (h1 : x.toInt = a → WA X d kc ns mt ta L S M Q) (h2 : x.toInt = b → WA X d kc ns mt tb L S M Q) (h3 : x.toInt = c → WA X d kc ns mt tc L S M Q) (h4 : ¬ x.toInt = a → ¬ x.toInt = b → ¬ x.toInt = c → WA X d kc ns mt td L S M Q) : WA X d kc ns mt pc L (vI x :: S) M Q := by
  simp only [Bool.and_eq_true, decide_eq_true_eq] at hs
  refine x_lookup hd (by simp [hs.1, hs.2]) ?_
  by_cases c1 : x.toInt = a
  · exact ⟨ta, by simp [Op.lookupswitch.offset, c1]; exact ga, h1 c1⟩
  · by_cases c2 : x.toInt = b
    · exact ⟨tb, by simp [Op.lookupswitch.offset, c2, show ¬ a = b by omega, show ¬ b = a by omega]; exact gb, h2 c2⟩
    · by_cases c3 : x.toInt = c
      · exact ⟨tc, by simp [Op.lookupswitch.offset, c3, show ¬ a = c by omega, show ¬ b = c by omega, show ¬ c = a by omega, show ¬ c = b by omega]; exact gc, h3 c3⟩
      · exact ⟨td, by simp [Op.lookupswitch.offset, c1, c2, c3, Ne.symm c1, Ne.symm c2, Ne.symm c3]; exact gd, h4 c1 c2 c3⟩
/-! Math -/
def maxI (x y : Int32) : Int32 := if x < y then y else x
def minI (x y : Int32) : Int32 := if y < x then y else x
def absI (x : Int32) : Int32 := if 0 ≤ x then x else 0 - x
section MATH
variable {X : Cx} {d kc ns : Nat} {mt : MT} {pc n idx : Nat} {L : List (Option AV)} {S : List AV} {M : Mem} {Q : Option AV → Mem → Prop}
theorem x_mmax {x y : Int32} (hd : DC mt.2.1 pc (.invokestatic idx) 3 n) (hl : Cond.methodLink mt.1.cls idx Lib.Math.max.name ∈ lw_tbl) (hst : Cond.static Lib.Math.max.name ∈ lw_tbl) (hco : Cond.code Lib.Math.max.name Lib.Math.max.code 2 (some .int) ∈ lw_tbl) (hd1 : 1 ≤ d) (hS8 : wS S ≤ 8) (h : WA X d kc ns mt n L (vI (maxI x y) :: S) M Q) : WA X d kc ns mt pc L (vI y :: vI x :: S) M Q := by
  obtain ⟨hd, rfl⟩ := hd
  intro p e R s m args below meth c H locs cells slots ls E hL hR
  exact va_mmax E.1.1 E.1.2.1 (by rw [E.1.2.2.2.1]; exact hL.1.symm) E.1.2.2.2.2.1 (wd E hl args) (wd E hst args) (wd E mx_ini args) (wd E hco args) (by have := E.2.1; omega) (by have := cat8 (b0 := X.2.2.2) S; have := E.2.2.1; omega) (by have := E.2.2.2.1; omega) (by have := E.2.2.2.2.1; omega) hd (h p e R s m args below meth c H locs cells slots ls E hL hR)
theorem x_mmin {x y : Int32} (hd : DC mt.2.1 pc (.invokestatic idx) 3 n) (hl : Cond.methodLink mt.1.cls idx Lib.Math.min.name ∈ lw_tbl) (hst : Cond.static Lib.Math.min.name ∈ lw_tbl) (hco : Cond.code Lib.Math.min.name Lib.Math.min.code 2 (some .int) ∈ lw_tbl) (hd1 : 1 ≤ d) (hS8 : wS S ≤ 8) (h : WA X d kc ns mt n L (vI (minI x y) :: S) M Q) : WA X d kc ns mt pc L (vI y :: vI x :: S) M Q := by
  obtain ⟨hd, rfl⟩ := hd
  intro p e R s m args below meth c H locs cells slots ls E hL hR
  exact va_mmin E.1.1 E.1.2.1 (by rw [E.1.2.2.2.1]; exact hL.1.symm) E.1.2.2.2.2.1 (wd E hl args) (wd E hst args) (wd E mx_ini args) (wd E hco args) (by have := E.2.1; omega) (by have := cat8 (b0 := X.2.2.2) S; have := E.2.2.1; omega) (by have := E.2.2.2.1; omega) (by have := E.2.2.2.2.1; omega) hd (h p e R s m args below meth c H locs cells slots ls E hL hR)
theorem x_mabs {x : Int32} (hd : DC mt.2.1 pc (.invokestatic idx) 3 n) (hl : Cond.methodLink mt.1.cls idx Lib.Math.abs.name ∈ lw_tbl) (hst : Cond.static Lib.Math.abs.name ∈ lw_tbl) (hco : Cond.code Lib.Math.abs.name Lib.Math.abs.code 1 (some .int) ∈ lw_tbl) (hd1 : 1 ≤ d) (hS8 : wS S ≤ 8) (h : WA X d kc ns mt n L (vI (absI x) :: S) M Q) : WA X d kc ns mt pc L (vI x :: S) M Q := by
  obtain ⟨hd, rfl⟩ := hd
  intro p e R s m args below meth c H locs cells slots ls E hL hR
  exact va_mabs E.1.1 E.1.2.1 (by rw [E.1.2.2.2.1]; exact hL.1.symm) E.1.2.2.2.2.1 (wd E hl args) (wd E hst args) (wd E mx_ini args) (wd E hco args) (by have := E.2.1; omega) (by have := cat8 (b0 := X.2.2.2) S; have := E.2.2.1; omega) (by have := E.2.2.2.1; omega) (by have := E.2.2.2.2.1; omega) hd (h p e R s m args below meth c H locs cells slots ls E hL hR)
end MATH
