/-! THE REFERENCE: its text on the tape -/
theorem sp_in {X : Cx} {d : Nat} {M : Mem} {Q : Option AV → Mem → Prop} {v low high : Int32} (h : Q (some (vI (bI (decide (low ≤ v) && decide (v ≤ high))))) M) : Cl X d 0 0 m_X11_in [vI v, vI low, vI high] M Q := by
  refine Cl.intro (L := [some (vI v), some (vI low), some (vI high)]) (k := 0) (by decide) rfl rfl ?_
  refine b_X11_in_0 ⟨fun hc => ?_, fun hc => ⟨fun hc2 => ?_, fun hc2 => ?_⟩⟩
  all_goals skip
  · sorry
  · sorry
  · sorry
