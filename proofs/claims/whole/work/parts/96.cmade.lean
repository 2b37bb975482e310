/-! THE CLASS: a land is made -/
/-- what has been made of the thing at a: j cells, references, kinds, contents, a's numbers -/
def mkL (M B : Mem) (a j : Nat) (rs : List (Nat × Nat)) (ks : List (Nat × Nat × Nat)) (cs : List (Nat × (Nat → Int32))) (fs : List (Nat × Int32)) : Prop :=
  nx B = j ∧ a < nx M ∧ nx M ≤ j ∧ Fal (fun b _ => b = a) (fun b _ => b = a) M B ∧ (∀ e, e ∈ rs → mR B a e.1 = e.2) ∧ (∀ e, e ∈ ks → isK B e.1 e.2.1 e.2.2) ∧ (∀ e, e ∈ cs → e.1 ≠ a ∧ e.1 < j ∧ ∀ k, mI B e.1 k = e.2 k) ∧ ∀ e, e ∈ fs → mI B a e.1 = e.2
section MADE
variable {M B : Mem} {a j : Nat} {rs : List (Nat × Nat)} {ks : List (Nat × Nat × Nat)} {cs : List (Nat × (Nat → Int32))} {fs : List (Nat × Int32)}
theorem mkL.start (h : a < nx M) : mkL M M a (nx M) [] [] [] [] := ⟨rfl, h, Nat.le_refl _, Fal.refl, fun e h => (by cases h), fun e h => (by cases h), fun e h => (by cases h), fun e h => (by cases h)⟩
theorem mkL.new {k n : Nat} (h : mkL M B a j rs ks cs fs) : mkL M (nw B k n) a (j + 1) rs ((j, k, n) :: ks) ((j, fun _ => 0) :: cs) fs := by
  obtain ⟨h1, h2, h3, h4, h5, h6, h7, h8⟩ := h
  have hF : Fal (fun b _ => b = a) (fun b _ => b = a) B (nw B k n) := Fal.nw
  have ha : a < nx B := by omega
  have hj : ∀ e ∈ cs, e.1 < nx B := fun e he => by have := (h7 e he).2.1; omega
  have eI : ∀ b i, b < nx B → mI (nw B k n) b i = mI B b i := fun b i hb => by
    show (if b = B.2.2.2.length then 0 else B.1 b i) = B.1 b i
    rw [if_neg (by have : nx B = B.2.2.2.length := rfl; omega)]
  have eR : ∀ b i, b < nx B → mR (nw B k n) b i = mR B b i := fun b i hb => by
    show (if b = B.2.2.2.length then 0 else B.2.1 b i) = B.2.1 b i
    rw [if_neg (by have : nx B = B.2.2.2.length := rfl; omega)]
  refine ⟨by rw [nx_nw, h1], h2, by omega, h4.trans hF, fun e he => (eR _ _ ha).trans (h5 e he), fun e he => ?_, fun e he => ?_, fun e he => (eI _ _ ha).trans (h8 e he)⟩
  · rcases List.mem_cons.mp he with z | z
    · subst z; rw [← h1]; exact isK_nw
    · exact isK_nw_old (h6 e z)
  · rcases List.mem_cons.mp he with z | z
    · subst z; exact ⟨by show j ≠ a; omega, by show j < j + 1; omega, fun i => by rw [← h1]; exact mI_nw⟩
    · obtain ⟨c1, c2, c3⟩ := h7 e z
      exact ⟨c1, by omega, fun i => (eI _ _ (hj e z)).trans (c3 i)⟩
theorem mkL.newc {c n : Nat} {f : Nat → Int32} (h : mkL M B a j rs ks cs fs) (hf : ∀ k, mI B c k = f k) : mkL M (nwc B c n) a (j + 1) rs ((j, 14, n) :: ks) ((j, f) :: cs) fs := by
  obtain ⟨h1, h2, h3, h4, h5, h6, h7, h8⟩ := h
  have eI : ∀ b i, b < nx B → mI (nwc B c n) b i = mI B b i := fun b i hb => by
    show (if b = B.2.2.2.length then B.1 c i else B.1 b i) = B.1 b i
    rw [if_neg (by have : nx B = B.2.2.2.length := rfl; omega)]
  have eR : ∀ b i, b < nx B → mR (nwc B c n) b i = mR B b i := fun b i hb => by
    show (if b = B.2.2.2.length then 0 else B.2.1 b i) = B.2.1 b i
    rw [if_neg (by have : nx B = B.2.2.2.length := rfl; omega)]
  have eJ : ∀ b i, b < nx B → mJ (nwc B c n) b i = mJ B b i := fun b i hb => by
    show (if b = B.2.2.2.length then 0 else B.2.2.1 b i) = B.2.2.1 b i
    rw [if_neg (by have : nx B = B.2.2.2.length := rfl; omega)]
  have en : nx (nwc B c n) = nx B + 1 := by
    show (B.2.2.2 ++ [(14, n)]).length = B.2.2.2.length + 1
    simp
  have hF : Fal (fun b _ => b = a) (fun b _ => b = a) B (nwc B c n) := ⟨by omega, fun b i hb _ => eI b i hb, fun b i hb _ => eR b i hb, fun b i hb => eJ b i hb, fun b k n hk => isK_nwc_old hk⟩
  have ha : a < nx B := by omega
  have hj : ∀ e ∈ cs, e.1 < nx B := fun e he => by have := (h7 e he).2.1; omega
  refine ⟨by rw [en, h1], h2, by omega, h4.trans hF, fun e he => (eR _ _ ha).trans (h5 e he), fun e he => ?_, fun e he => ?_, fun e he => (eI _ _ ha).trans (h8 e he)⟩
  · rcases List.mem_cons.mp he with z | z
    · subst z; rw [← h1]; exact isK_nwc
    · exact isK_nwc_old (h6 e z)
  · rcases List.mem_cons.mp he with z | z
    · subst z
      refine ⟨by show j ≠ a; omega, by show j < j + 1; omega, fun i => ?_⟩
      show (if j = B.2.2.2.length then B.1 c i else B.1 j i) = f i
      rw [if_pos (by have : nx B = B.2.2.2.length := rfl; omega)]; exact hf i
    · obtain ⟨c1, c2, c3⟩ := h7 e z
      exact ⟨c1, by omega, fun i => (eI _ _ (hj e z)).trans (c3 i)⟩
theorem mkL.putR {i v : Nat} (h : mkL M B a j rs ks cs fs) (hi : rs.all (fun e => e.1 != i) = true) : mkL M (sR B a i v) a j ((i, v) :: rs) ks cs fs := by
  obtain ⟨h1, h2, h3, h4, h5, h6, h7, h8⟩ := h
  refine ⟨h1, h2, h3, h4.trans (Frr.sR (S := fun b _ => b = a) (T := fun b _ => b = a) rfl).al, fun e he => ?_, fun e he => h6 e he, fun e he => h7 e he, fun e he => h8 e he⟩
  rw [mR_sR]
  rcases List.mem_cons.mp he with z | z
  · subst z; exact if_pos ⟨rfl, rfl⟩
  · rw [if_neg (fun w => by have := List.all_eq_true.mp hi e z; rw [w.2] at this; simp at this)]; exact h5 e z
theorem mkL.putI {i : Nat} {v : Int32} (h : mkL M B a j rs ks cs fs) (hi : fs.all (fun e => e.1 != i) = true) : mkL M (sI B a i v) a j rs ks cs ((i, v) :: fs) := by
  obtain ⟨h1, h2, h3, h4, h5, h6, h7, h8⟩ := h
  refine ⟨h1, h2, h3, h4.trans ((Fr.sI (S := fun b _ => b = a) rfl).rr (T := fun b _ => b = a)).al, fun e he => h5 e he, fun e he => h6 e he, fun e he => ⟨(h7 e he).1, (h7 e he).2.1, fun k => ?_⟩, fun e he => ?_⟩
  · rw [mI_sI_a (h7 e he).1]; exact (h7 e he).2.2 k
  · rw [mI_sI]
    rcases List.mem_cons.mp he with z | z
    · subst z; exact if_pos ⟨rfl, rfl⟩
    · rw [if_neg (fun w => by have := List.all_eq_true.mp hi e z; rw [w.2] at this; simp at this)]; exact h8 e z
theorem mkL.old {b i : Nat} (h : mkL M B a j rs ks cs fs) (hb : b < nx M) (hba : b ≠ a) : mI B b i = mI M b i ∧ mR B b i = mR M b i := ⟨h.2.2.2.1.2.1 b i hb hba, h.2.2.2.1.2.2.1 b i hb hba⟩
theorem mkL.kk {b k n : Nat} (h : mkL M B a j rs ks cs fs) (hk : isK M b k n) : isK B b k n := h.2.2.2.1.2.2.2.2 _ _ _ hk
theorem mkL.f {i : Nat} {v : Int32} (h : mkL M B a j rs ks cs fs) (hi : (i, v) ∈ fs) : mI B a i = v := h.2.2.2.2.2.2.2 _ hi
/-- what is made of another thing -/
theorem mkL.al {r : Nat} {C : Mem} (h : mkL M B a j rs ks cs fs) (hF : Fal (fun b _ => b = r) (fun b _ => b = r) B C) (hr : nx M ≤ r) (hcs : ∀ e, e ∈ cs → e.1 ≠ r) : mkL M C a (nx C) rs ks cs fs := by
  obtain ⟨h1, h2, h3, h4, h5, h6, h7, h8⟩ := h
  have ha : a < nx B := by omega
  have har : a ≠ r := by omega
  have hle := hF.1
  refine ⟨rfl, h2, by omega, ⟨by omega, fun b i hb hn => ?_, fun b i hb hn => ?_, fun b i hb => ?_, fun b k n hk => hF.2.2.2.2 _ _ _ (h4.2.2.2.2 _ _ _ hk)⟩, fun e he => (hF.2.2.1 _ _ ha har).trans (h5 e he), fun e he => hF.2.2.2.2 _ _ _ (h6 e he), fun e he => ⟨(h7 e he).1, by have := (h7 e he).2.1; omega, fun k => ?_⟩, fun e he => (hF.2.1 _ _ ha har).trans (h8 e he)⟩
  · exact (hF.2.1 b i (by omega) (show b ≠ r by omega)).trans (h4.2.1 b i hb hn)
  · exact (hF.2.2.1 b i (by omega) (show b ≠ r by omega)).trans (h4.2.2.1 b i hb hn)
  · exact (hF.2.2.2.1 b i (by omega)).trans (h4.2.2.2.1 b i hb)
  · exact (hF.2.1 _ k (by have := (h7 e he).2.1; omega) (hcs e he)).trans ((h7 e he).2.2 k)
end MADE
section ROLLINIT
variable {X : Cx} {d kc ns a : Nat} {M : Mem} {Q : Option AV → Mem → Prop}
theorem kp_rollInit (hd : 1 ≤ d) (hkc : 2 ≤ kc) (ha : isK M a 8 4) (h : ∀ B, Fal (fun b _ => b = a) (fun b _ => b = a) M B → nx B = nx M + 2 → mR B a 0 = nx M → mR B a 1 = nx M + 1 → isK B (nx M) 14 0 → isK B (nx M + 1) 14 0 → mI B a 3 = nI 0 → Q none B) : Cl X d kc ns m_X8_init [vR a] M Q := by
  have hlt : a < nx M := isK_lt ha
  have s0 := mkL.start hlt
  refine e_X8_init (b_X8_init_0 ha hd ⟨na_in (by decide) (by decide), by omega, by rw [na_ix (by decide)]; exact Nat.zero_le _, fun M1 e1 M2 e2 => ⟨na_in (by decide) (by decide), by omega, by rw [na_ix (by decide)]; exact Nat.zero_le _, fun M3 e3 M4 e4 M5 e5 M6 e6 => ?_⟩⟩)
  rw [na_ix (by decide)] at e1 e3
  have s1 := s0.new (k := 14) (n := 0)
  rw [← e1] at s1
  have s2 := s1.putR (i := 0) (v := nx M) rfl
  rw [← e2] at s2
  have s3 := s2.new (k := 14) (n := 0)
  rw [← e3] at s3
  rw [s2.1] at e4
  have s4 := s3.putR (i := 1) (v := nx M + 1) rfl
  rw [← e4] at s4
  have s5 := s4.putI (i := 2) (v := nI 0) rfl
  rw [← e5] at s5
  have s6 := s5.putI (i := 3) (v := nI 0) rfl
  rw [← e6] at s6
  obtain ⟨g1, g2, g3, g4, g5, g6, g7, g8⟩ := s6
  exact h M6 g4 g1 (g5 (0, nx M) (by simp)) (g5 (1, nx M + 1) (by simp)) (g6 (nx M, 14, 0) (by simp)) (g6 (nx M + 1, 14, 0) (by simp)) (g8 (3, nI 0) (by simp))
end ROLLINIT
