/-! SHAPES: what stays of the heap's form; Ext: a later memory, with all that was made and with the final references as they were -/
def mN (M : Mem) (a : Nat) : Nat := ((M.2.2.2[a]?).getD (0, 0)).2
theorem isK_mN {M : Mem} {a k n : Nat} (h : isK M a k n) : mN M a = n := by unfold mN; unfold isK at h; rw [h]; rfl
theorem isK_n {M : Mem} {a k n : Nat} (h : isK M a k n) : isK M a k (mN M a) := by rw [isK_mN h]; exact h
theorem isK_fun {M : Mem} {a k n k' n' : Nat} (h : isK M a k n) (h' : isK M a k' n') : k = k' ∧ n = n' := by unfold isK at *; rw [h] at h'; cases h'; exact ⟨rfl, rfl⟩
def finR (ci k : Nat) : Bool := decide (ci < 12) && rfC ci k && (fdC ci k).2.2
def Ext (M M1 : Mem) : Prop := (∀ a k n, isK M a k n → isK M1 a k n) ∧ ∀ a ci k n, isK M a ci n → finR ci k = true → mR M1 a k = mR M a k
theorem Ext.refl (M : Mem) : Ext M M := ⟨fun _ _ _ h => h, fun _ _ _ _ _ _ => rfl⟩
theorem Ext.trans {M M1 M2 : Mem} (h1 : Ext M M1) (h2 : Ext M1 M2) : Ext M M2 := ⟨fun a k n h => h2.1 a k n (h1.1 a k n h), fun a ci k n h hf => (h2.2 a ci k n (h1.1 a ci n h) hf).trans (h1.2 a ci k n h hf)⟩
theorem ExtI {M : Mem} {a i : Nat} {v : Int32} : Ext M (sI M a i v) := ⟨fun _ _ _ h => h, fun _ _ _ _ _ _ => rfl⟩
theorem ExtJ {M : Mem} {a i : Nat} {v : Int64} : Ext M (sJ M a i v) := ⟨fun _ _ _ h => h, fun _ _ _ _ _ _ => rfl⟩
theorem ExtR {M : Mem} {a ci i v n0 : Nat} (ho : isK M a ci n0) (hf : finR ci i = false) : Ext M (sR M a i v) := by
  refine ⟨fun _ _ _ h => h, fun b cj j n h hj => ?_⟩
  show up2 M.2.1 a i v b j = M.2.1 b j
  unfold up2
  by_cases hc : b = a ∧ j = i
  · obtain ⟨rfl, rfl⟩ := hc
    obtain ⟨rfl, -⟩ := isK_fun ho h
    rw [hf] at hj; cases hj
  · rw [if_neg hc]
theorem ExtRa {M : Mem} {a k i v n0 : Nat} (ho : isK M a k n0) (hk : 12 ≤ k) : Ext M (sR M a i v) := by
  refine ⟨fun _ _ _ h => h, fun b cj j n h hj => ?_⟩
  show up2 M.2.1 a i v b j = M.2.1 b j
  unfold up2
  by_cases hc : b = a ∧ j = i
  · obtain ⟨rfl, rfl⟩ := hc
    obtain ⟨rfl, -⟩ := isK_fun ho h
    unfold finR at hj
    rw [show decide (k < 12) = false by simp; omega] at hj
    cases hj
  · rw [if_neg hc]
theorem ExtN {M : Mem} {k n : Nat} : Ext M (nw M k n) := by
  refine ⟨fun _ _ _ h => isK_nw_old h, fun b cj j n h hj => ?_⟩
  have := isK_lt h
  show (if b = M.2.2.2.length then 0 else M.2.1 b j) = M.2.1 b j
  simp [Nat.ne_of_lt this]
theorem isK_nwc {M : Mem} {a n : Nat} : isK (nwc M a n) (nx M) 14 n := by unfold isK nwc nx; simp
theorem isK_nwc_old {M : Mem} {a b k n n0 : Nat} (h : isK M b k n0) : isK (nwc M a n) b k n0 := by
  have := isK_lt h
  unfold isK nwc at *
  simp [List.getElem?_append_left this, h]
theorem ExtNc {M : Mem} {a n : Nat} : Ext M (nwc M a n) := by
  refine ⟨fun _ _ _ h => isK_nwc_old h, fun b cj j n h hj => ?_⟩
  have := isK_lt h
  show (if b = M.2.2.2.length then 0 else M.2.1 b j) = M.2.1 b j
  simp [Nat.ne_of_lt this]
/-- TwoPencils$Roll -/
def RoS (M : Mem) (a : Nat) : Prop := isK M a 8 4
theorem RoS.o {M : Mem} {a : Nat} (h : RoS M a) : isK M a 8 4 := h
theorem RoS.ext {M M1 : Mem} {a : Nat} (h : RoS M a) (hE : Ext M M1) : RoS M1 a := hE.1 _ _ _ (RoS.o h)
/-- TwoPencils$Cutter -/
def CuS (M : Mem) (a : Nat) : Prop := isK M a 0 9 ∧ (mR M a 0 = (a + 1) ∧ isK M (a + 1) 14 8) ∧ (mR M a 1 = (a + 2) ∧ isK M (a + 2) 14 10) ∧ (mR M a 2 = (a + 3) ∧ isK M (a + 3) 14 10) ∧ (mR M a 3 = (a + 4) ∧ isK M (a + 4) 14 11)
theorem CuS.o {M : Mem} {a : Nat} (h : CuS M a) : isK M a 0 9 := h.1
theorem CuS.r0 {M : Mem} {a : Nat} (h : CuS M a) : mR M a 0 = (a + 1) := h.2.1.1
theorem CuS.k0 {M : Mem} {a : Nat} (h : CuS M a) : isK M (a + 1) 14 8 := h.2.1.2
theorem CuS.r1 {M : Mem} {a : Nat} (h : CuS M a) : mR M a 1 = (a + 2) := h.2.2.1.1
theorem CuS.k1 {M : Mem} {a : Nat} (h : CuS M a) : isK M (a + 2) 14 10 := h.2.2.1.2
theorem CuS.r2 {M : Mem} {a : Nat} (h : CuS M a) : mR M a 2 = (a + 3) := h.2.2.2.1.1
theorem CuS.k2 {M : Mem} {a : Nat} (h : CuS M a) : isK M (a + 3) 14 10 := h.2.2.2.1.2
theorem CuS.r3 {M : Mem} {a : Nat} (h : CuS M a) : mR M a 3 = (a + 4) := h.2.2.2.2.1
theorem CuS.k3 {M : Mem} {a : Nat} (h : CuS M a) : isK M (a + 4) 14 11 := h.2.2.2.2.2
theorem CuS.ext {M M1 : Mem} {a : Nat} (h : CuS M a) (hE : Ext M M1) : CuS M1 a := ⟨hE.1 _ _ _ (CuS.o h), ⟨(hE.2 _ 0 0 _ (CuS.o h) rfl).trans (CuS.r0 h), hE.1 _ _ _ (CuS.k0 h)⟩, ⟨(hE.2 _ 0 1 _ (CuS.o h) rfl).trans (CuS.r1 h), hE.1 _ _ _ (CuS.k1 h)⟩, ⟨(hE.2 _ 0 2 _ (CuS.o h) rfl).trans (CuS.r2 h), hE.1 _ _ _ (CuS.k2 h)⟩, ⟨(hE.2 _ 0 3 _ (CuS.o h) rfl).trans (CuS.r3 h), hE.1 _ _ _ (CuS.k3 h)⟩⟩
/-- TwoPencils$Joiner -/
def JoS (M : Mem) (a : Nat) : Prop := isK M a 2 8 ∧ (mR M a 5 = (a + 2) ∧ isK M (a + 2) 14 4)
theorem JoS.o {M : Mem} {a : Nat} (h : JoS M a) : isK M a 2 8 := h.1
theorem JoS.r5 {M : Mem} {a : Nat} (h : JoS M a) : mR M a 5 = (a + 2) := h.2.1
theorem JoS.k5 {M : Mem} {a : Nat} (h : JoS M a) : isK M (a + 2) 14 4 := h.2.2
theorem JoS.ext {M M1 : Mem} {a : Nat} (h : JoS M a) (hE : Ext M M1) : JoS M1 a := ⟨hE.1 _ _ _ (JoS.o h), ⟨(hE.2 _ 2 5 _ (JoS.o h) rfl).trans (JoS.r5 h), hE.1 _ _ _ (JoS.k5 h)⟩⟩
/-- TwoPencils$Game -/
def GaS (M : Mem) (a : Nat) : Prop := isK M a 1 16 ∧ (mR M a 0 = 29 ∧ CuS M 29) ∧ (mR M a 1 = 35 ∧ JoS M 35) ∧ (mR M a 4 = (a + 1) ∧ isK M (a + 1) 14 8) ∧ (mR M a 6 = (a + 2) ∧ isK M (a + 2) 14 4) ∧ (mR M a 12 = (a + 3) ∧ isK M (a + 3) 14 8) ∧ (mR M a 13 = (a + 4) ∧ isK M (a + 4) 14 8)
theorem GaS.o {M : Mem} {a : Nat} (h : GaS M a) : isK M a 1 16 := h.1
theorem GaS.r0 {M : Mem} {a : Nat} (h : GaS M a) : mR M a 0 = 29 := h.2.1.1
theorem GaS.k0 {M : Mem} {a : Nat} (h : GaS M a) : CuS M 29 := h.2.1.2
theorem GaS.r1 {M : Mem} {a : Nat} (h : GaS M a) : mR M a 1 = 35 := h.2.2.1.1
theorem GaS.k1 {M : Mem} {a : Nat} (h : GaS M a) : JoS M 35 := h.2.2.1.2
theorem GaS.r4 {M : Mem} {a : Nat} (h : GaS M a) : mR M a 4 = (a + 1) := h.2.2.2.1.1
theorem GaS.k4 {M : Mem} {a : Nat} (h : GaS M a) : isK M (a + 1) 14 8 := h.2.2.2.1.2
theorem GaS.r6 {M : Mem} {a : Nat} (h : GaS M a) : mR M a 6 = (a + 2) := h.2.2.2.2.1.1
theorem GaS.k6 {M : Mem} {a : Nat} (h : GaS M a) : isK M (a + 2) 14 4 := h.2.2.2.2.1.2
theorem GaS.r12 {M : Mem} {a : Nat} (h : GaS M a) : mR M a 12 = (a + 3) := h.2.2.2.2.2.1.1
theorem GaS.k12 {M : Mem} {a : Nat} (h : GaS M a) : isK M (a + 3) 14 8 := h.2.2.2.2.2.1.2
theorem GaS.r13 {M : Mem} {a : Nat} (h : GaS M a) : mR M a 13 = (a + 4) := h.2.2.2.2.2.2.1
theorem GaS.k13 {M : Mem} {a : Nat} (h : GaS M a) : isK M (a + 4) 14 8 := h.2.2.2.2.2.2.2
theorem GaS.ext {M M1 : Mem} {a : Nat} (h : GaS M a) (hE : Ext M M1) : GaS M1 a := ⟨hE.1 _ _ _ (GaS.o h), ⟨(hE.2 _ 1 0 _ (GaS.o h) rfl).trans (GaS.r0 h), CuS.ext (GaS.k0 h) hE⟩, ⟨(hE.2 _ 1 1 _ (GaS.o h) rfl).trans (GaS.r1 h), JoS.ext (GaS.k1 h) hE⟩, ⟨(hE.2 _ 1 4 _ (GaS.o h) rfl).trans (GaS.r4 h), hE.1 _ _ _ (GaS.k4 h)⟩, ⟨(hE.2 _ 1 6 _ (GaS.o h) rfl).trans (GaS.r6 h), hE.1 _ _ _ (GaS.k6 h)⟩, ⟨(hE.2 _ 1 12 _ (GaS.o h) rfl).trans (GaS.r12 h), hE.1 _ _ _ (GaS.k12 h)⟩, ⟨(hE.2 _ 1 13 _ (GaS.o h) rfl).trans (GaS.r13 h), hE.1 _ _ _ (GaS.k13 h)⟩⟩
/-- TwoPencils$Land -/
def LaS (M : Mem) (a : Nat) : Prop := isK M a 3 16 ∧ (mR M a 5 = (a + 2) ∧ isK M (a + 2) 14 27) ∧ (mR M a 6 = (a + 3) ∧ isK M (a + 3) 14 9) ∧ (mR M a 7 = (a + 4) ∧ isK M (a + 4) 14 9) ∧ (mR M a 8 = (a + 5) ∧ isK M (a + 5) 14 (mN M (a + 5))) ∧ (mR M a 9 = (a + 6) ∧ isK M (a + 6) 12 (mN M (a + 6))) ∧ (mR M a 10 = (a + 7) ∧ isK M (a + 7) 14 (mN M (a + 7))) ∧ (mR M a 11 = (a + 8) ∧ isK M (a + 8) 14 (mN M (a + 8))) ∧ (mR M a 12 = (a + 1) ∧ isK M (a + 1) 14 16) ∧ (mR M a 13 = (a + 9) ∧ RoS M (a + 9))
theorem LaS.o {M : Mem} {a : Nat} (h : LaS M a) : isK M a 3 16 := h.1
theorem LaS.r5 {M : Mem} {a : Nat} (h : LaS M a) : mR M a 5 = (a + 2) := h.2.1.1
theorem LaS.k5 {M : Mem} {a : Nat} (h : LaS M a) : isK M (a + 2) 14 27 := h.2.1.2
theorem LaS.r6 {M : Mem} {a : Nat} (h : LaS M a) : mR M a 6 = (a + 3) := h.2.2.1.1
theorem LaS.k6 {M : Mem} {a : Nat} (h : LaS M a) : isK M (a + 3) 14 9 := h.2.2.1.2
theorem LaS.r7 {M : Mem} {a : Nat} (h : LaS M a) : mR M a 7 = (a + 4) := h.2.2.2.1.1
theorem LaS.k7 {M : Mem} {a : Nat} (h : LaS M a) : isK M (a + 4) 14 9 := h.2.2.2.1.2
theorem LaS.r8 {M : Mem} {a : Nat} (h : LaS M a) : mR M a 8 = (a + 5) := h.2.2.2.2.1.1
theorem LaS.k8 {M : Mem} {a : Nat} (h : LaS M a) : isK M (a + 5) 14 (mN M (a + 5)) := h.2.2.2.2.1.2
theorem LaS.r9 {M : Mem} {a : Nat} (h : LaS M a) : mR M a 9 = (a + 6) := h.2.2.2.2.2.1.1
theorem LaS.k9 {M : Mem} {a : Nat} (h : LaS M a) : isK M (a + 6) 12 (mN M (a + 6)) := h.2.2.2.2.2.1.2
theorem LaS.r10 {M : Mem} {a : Nat} (h : LaS M a) : mR M a 10 = (a + 7) := h.2.2.2.2.2.2.1.1
theorem LaS.k10 {M : Mem} {a : Nat} (h : LaS M a) : isK M (a + 7) 14 (mN M (a + 7)) := h.2.2.2.2.2.2.1.2
theorem LaS.r11 {M : Mem} {a : Nat} (h : LaS M a) : mR M a 11 = (a + 8) := h.2.2.2.2.2.2.2.1.1
theorem LaS.k11 {M : Mem} {a : Nat} (h : LaS M a) : isK M (a + 8) 14 (mN M (a + 8)) := h.2.2.2.2.2.2.2.1.2
theorem LaS.r12 {M : Mem} {a : Nat} (h : LaS M a) : mR M a 12 = (a + 1) := h.2.2.2.2.2.2.2.2.1.1
theorem LaS.k12 {M : Mem} {a : Nat} (h : LaS M a) : isK M (a + 1) 14 16 := h.2.2.2.2.2.2.2.2.1.2
theorem LaS.r13 {M : Mem} {a : Nat} (h : LaS M a) : mR M a 13 = (a + 9) := h.2.2.2.2.2.2.2.2.2.1
theorem LaS.k13 {M : Mem} {a : Nat} (h : LaS M a) : RoS M (a + 9) := h.2.2.2.2.2.2.2.2.2.2
theorem LaS.ext {M M1 : Mem} {a : Nat} (h : LaS M a) (hE : Ext M M1) : LaS M1 a := ⟨hE.1 _ _ _ (LaS.o h), ⟨(hE.2 _ 3 5 _ (LaS.o h) rfl).trans (LaS.r5 h), hE.1 _ _ _ (LaS.k5 h)⟩, ⟨(hE.2 _ 3 6 _ (LaS.o h) rfl).trans (LaS.r6 h), hE.1 _ _ _ (LaS.k6 h)⟩, ⟨(hE.2 _ 3 7 _ (LaS.o h) rfl).trans (LaS.r7 h), hE.1 _ _ _ (LaS.k7 h)⟩, ⟨(hE.2 _ 3 8 _ (LaS.o h) rfl).trans (LaS.r8 h), isK_n (hE.1 _ _ _ (LaS.k8 h))⟩, ⟨(hE.2 _ 3 9 _ (LaS.o h) rfl).trans (LaS.r9 h), isK_n (hE.1 _ _ _ (LaS.k9 h))⟩, ⟨(hE.2 _ 3 10 _ (LaS.o h) rfl).trans (LaS.r10 h), isK_n (hE.1 _ _ _ (LaS.k10 h))⟩, ⟨(hE.2 _ 3 11 _ (LaS.o h) rfl).trans (LaS.r11 h), isK_n (hE.1 _ _ _ (LaS.k11 h))⟩, ⟨(hE.2 _ 3 12 _ (LaS.o h) rfl).trans (LaS.r12 h), hE.1 _ _ _ (LaS.k12 h)⟩, ⟨(hE.2 _ 3 13 _ (LaS.o h) rfl).trans (LaS.r13 h), RoS.ext (LaS.k13 h) hE⟩⟩
/-- TwoPencils$LandText -/
def LtS (M : Mem) (a : Nat) : Prop := isK M a 4 7 ∧ (mR M a 4 = (a + 1) ∧ isK M (a + 1) 14 27) ∧ (mR M a 5 = (a + 2) ∧ isK M (a + 2) 14 9) ∧ (mR M a 6 = (a + 3) ∧ isK M (a + 3) 14 9)
theorem LtS.o {M : Mem} {a : Nat} (h : LtS M a) : isK M a 4 7 := h.1
theorem LtS.r4 {M : Mem} {a : Nat} (h : LtS M a) : mR M a 4 = (a + 1) := h.2.1.1
theorem LtS.k4 {M : Mem} {a : Nat} (h : LtS M a) : isK M (a + 1) 14 27 := h.2.1.2
theorem LtS.r5 {M : Mem} {a : Nat} (h : LtS M a) : mR M a 5 = (a + 2) := h.2.2.1.1
theorem LtS.k5 {M : Mem} {a : Nat} (h : LtS M a) : isK M (a + 2) 14 9 := h.2.2.1.2
theorem LtS.r6 {M : Mem} {a : Nat} (h : LtS M a) : mR M a 6 = (a + 3) := h.2.2.2.1
theorem LtS.k6 {M : Mem} {a : Nat} (h : LtS M a) : isK M (a + 3) 14 9 := h.2.2.2.2
theorem LtS.ext {M M1 : Mem} {a : Nat} (h : LtS M a) (hE : Ext M M1) : LtS M1 a := ⟨hE.1 _ _ _ (LtS.o h), ⟨(hE.2 _ 4 4 _ (LtS.o h) rfl).trans (LtS.r4 h), hE.1 _ _ _ (LtS.k4 h)⟩, ⟨(hE.2 _ 4 5 _ (LtS.o h) rfl).trans (LtS.r5 h), hE.1 _ _ _ (LtS.k5 h)⟩, ⟨(hE.2 _ 4 6 _ (LtS.o h) rfl).trans (LtS.r6 h), hE.1 _ _ _ (LtS.k6 h)⟩⟩
/-- TwoPencils$Mind -/
def MiS (M : Mem) (a : Nat) : Prop := isK M a 5 10 ∧ (mR M a 0 = 35 ∧ JoS M 35) ∧ (mR M a 1 = (a + 1) ∧ isK M (a + 1) 16 4) ∧ (mR M a 2 = (a + 2) ∧ isK M (a + 2) 14 2048) ∧ (mR M a 3 = (a + 3) ∧ isK M (a + 3) 14 2048) ∧ (mR M a 4 = (a + 4) ∧ isK M (a + 4) 14 8)
theorem MiS.o {M : Mem} {a : Nat} (h : MiS M a) : isK M a 5 10 := h.1
theorem MiS.r0 {M : Mem} {a : Nat} (h : MiS M a) : mR M a 0 = 35 := h.2.1.1
theorem MiS.k0 {M : Mem} {a : Nat} (h : MiS M a) : JoS M 35 := h.2.1.2
theorem MiS.r1 {M : Mem} {a : Nat} (h : MiS M a) : mR M a 1 = (a + 1) := h.2.2.1.1
theorem MiS.k1 {M : Mem} {a : Nat} (h : MiS M a) : isK M (a + 1) 16 4 := h.2.2.1.2
theorem MiS.r2 {M : Mem} {a : Nat} (h : MiS M a) : mR M a 2 = (a + 2) := h.2.2.2.1.1
theorem MiS.k2 {M : Mem} {a : Nat} (h : MiS M a) : isK M (a + 2) 14 2048 := h.2.2.2.1.2
theorem MiS.r3 {M : Mem} {a : Nat} (h : MiS M a) : mR M a 3 = (a + 3) := h.2.2.2.2.1.1
theorem MiS.k3 {M : Mem} {a : Nat} (h : MiS M a) : isK M (a + 3) 14 2048 := h.2.2.2.2.1.2
theorem MiS.r4 {M : Mem} {a : Nat} (h : MiS M a) : mR M a 4 = (a + 4) := h.2.2.2.2.2.1
theorem MiS.k4 {M : Mem} {a : Nat} (h : MiS M a) : isK M (a + 4) 14 8 := h.2.2.2.2.2.2
theorem MiS.ext {M M1 : Mem} {a : Nat} (h : MiS M a) (hE : Ext M M1) : MiS M1 a := ⟨hE.1 _ _ _ (MiS.o h), ⟨(hE.2 _ 5 0 _ (MiS.o h) rfl).trans (MiS.r0 h), JoS.ext (MiS.k0 h) hE⟩, ⟨(hE.2 _ 5 1 _ (MiS.o h) rfl).trans (MiS.r1 h), hE.1 _ _ _ (MiS.k1 h)⟩, ⟨(hE.2 _ 5 2 _ (MiS.o h) rfl).trans (MiS.r2 h), hE.1 _ _ _ (MiS.k2 h)⟩, ⟨(hE.2 _ 5 3 _ (MiS.o h) rfl).trans (MiS.r3 h), hE.1 _ _ _ (MiS.k3 h)⟩, ⟨(hE.2 _ 5 4 _ (MiS.o h) rfl).trans (MiS.r4 h), hE.1 _ _ _ (MiS.k4 h)⟩⟩
/-- TwoPencils$Protocol -/
def PrS (M : Mem) (a : Nat) : Prop := isK M a 6 2 ∧ (mR M a 0 = (a + 1) ∧ isK M (a + 1) 14 4) ∧ (mR M a 1 = (a + 2) ∧ isK M (a + 2) 14 4)
theorem PrS.o {M : Mem} {a : Nat} (h : PrS M a) : isK M a 6 2 := h.1
theorem PrS.r0 {M : Mem} {a : Nat} (h : PrS M a) : mR M a 0 = (a + 1) := h.2.1.1
theorem PrS.k0 {M : Mem} {a : Nat} (h : PrS M a) : isK M (a + 1) 14 4 := h.2.1.2
theorem PrS.r1 {M : Mem} {a : Nat} (h : PrS M a) : mR M a 1 = (a + 2) := h.2.2.1
theorem PrS.k1 {M : Mem} {a : Nat} (h : PrS M a) : isK M (a + 2) 14 4 := h.2.2.2
theorem PrS.ext {M M1 : Mem} {a : Nat} (h : PrS M a) (hE : Ext M M1) : PrS M1 a := ⟨hE.1 _ _ _ (PrS.o h), ⟨(hE.2 _ 6 0 _ (PrS.o h) rfl).trans (PrS.r0 h), hE.1 _ _ _ (PrS.k0 h)⟩, ⟨(hE.2 _ 6 1 _ (PrS.o h) rfl).trans (PrS.r1 h), hE.1 _ _ _ (PrS.k1 h)⟩⟩
/-- TwoPencils$ProtocolText -/
def PtS (M : Mem) (a : Nat) : Prop := isK M a 7 3 ∧ (mR M a 1 = (a + 1) ∧ isK M (a + 1) 14 6) ∧ (mR M a 2 = (a + 2) ∧ isK M (a + 2) 14 6)
theorem PtS.o {M : Mem} {a : Nat} (h : PtS M a) : isK M a 7 3 := h.1
theorem PtS.r1 {M : Mem} {a : Nat} (h : PtS M a) : mR M a 1 = (a + 1) := h.2.1.1
theorem PtS.k1 {M : Mem} {a : Nat} (h : PtS M a) : isK M (a + 1) 14 6 := h.2.1.2
theorem PtS.r2 {M : Mem} {a : Nat} (h : PtS M a) : mR M a 2 = (a + 2) := h.2.2.1
theorem PtS.k2 {M : Mem} {a : Nat} (h : PtS M a) : isK M (a + 2) 14 6 := h.2.2.2
theorem PtS.ext {M M1 : Mem} {a : Nat} (h : PtS M a) (hE : Ext M M1) : PtS M1 a := ⟨hE.1 _ _ _ (PtS.o h), ⟨(hE.2 _ 7 1 _ (PtS.o h) rfl).trans (PtS.r1 h), hE.1 _ _ _ (PtS.k1 h)⟩, ⟨(hE.2 _ 7 2 _ (PtS.o h) rfl).trans (PtS.r2 h), hE.1 _ _ _ (PtS.k2 h)⟩⟩
/-- TwoPencils$Tape -/
def TaS (M : Mem) (a : Nat) : Prop := isK M a 9 4 ∧ (mR M a 0 = (a + 1) ∧ isK M (a + 1) 13 300)
theorem TaS.o {M : Mem} {a : Nat} (h : TaS M a) : isK M a 9 4 := h.1
theorem TaS.r0 {M : Mem} {a : Nat} (h : TaS M a) : mR M a 0 = (a + 1) := h.2.1
theorem TaS.k0 {M : Mem} {a : Nat} (h : TaS M a) : isK M (a + 1) 13 300 := h.2.2
theorem TaS.ext {M M1 : Mem} {a : Nat} (h : TaS M a) (hE : Ext M M1) : TaS M1 a := ⟨hE.1 _ _ _ (TaS.o h), ⟨(hE.2 _ 9 0 _ (TaS.o h) rfl).trans (TaS.r0 h), hE.1 _ _ _ (TaS.k0 h)⟩⟩
/-- TwoPencils -/
def TpS (M : Mem) : Prop := isK M 1 10 18 ∧ (mR M 1 0 = 2 ∧ TaS M 2) ∧ (mR M 1 1 = 4 ∧ LtS M 4) ∧ (mR M 1 2 = 8 ∧ PtS M 8) ∧ (mR M 1 3 = 11 ∧ isK M 11 18 6) ∧ (mR M 1 4 = 12 ∧ isK M 12 19 8) ∧ (mR M 1 5 = 13 ∧ isK M 13 17 8) ∧ (mR M 1 11 = 29 ∧ CuS M 29) ∧ (mR M 1 12 = 35 ∧ JoS M 35) ∧ (mR M 1 13 = 38 ∧ MiS M 38) ∧ (mR M 1 14 = 67 ∧ GaS M 67) ∧ (mR M 1 15 = 72 ∧ isK M 72 14 240) ∧ (mR M 1 16 = 73 ∧ isK M 73 14 8) ∧ (mR M 1 17 = 74 ∧ isK M 74 14 8)
theorem TpS.o {M : Mem} (h : TpS M) : isK M 1 10 18 := h.1
theorem TpS.r0 {M : Mem} (h : TpS M) : mR M 1 0 = 2 := h.2.1.1
theorem TpS.k0 {M : Mem} (h : TpS M) : TaS M 2 := h.2.1.2
theorem TpS.r1 {M : Mem} (h : TpS M) : mR M 1 1 = 4 := h.2.2.1.1
theorem TpS.k1 {M : Mem} (h : TpS M) : LtS M 4 := h.2.2.1.2
theorem TpS.r2 {M : Mem} (h : TpS M) : mR M 1 2 = 8 := h.2.2.2.1.1
theorem TpS.k2 {M : Mem} (h : TpS M) : PtS M 8 := h.2.2.2.1.2
theorem TpS.r3 {M : Mem} (h : TpS M) : mR M 1 3 = 11 := h.2.2.2.2.1.1
theorem TpS.k3 {M : Mem} (h : TpS M) : isK M 11 18 6 := h.2.2.2.2.1.2
theorem TpS.r4 {M : Mem} (h : TpS M) : mR M 1 4 = 12 := h.2.2.2.2.2.1.1
theorem TpS.k4 {M : Mem} (h : TpS M) : isK M 12 19 8 := h.2.2.2.2.2.1.2
theorem TpS.r5 {M : Mem} (h : TpS M) : mR M 1 5 = 13 := h.2.2.2.2.2.2.1.1
theorem TpS.k5 {M : Mem} (h : TpS M) : isK M 13 17 8 := h.2.2.2.2.2.2.1.2
theorem TpS.r11 {M : Mem} (h : TpS M) : mR M 1 11 = 29 := h.2.2.2.2.2.2.2.1.1
theorem TpS.k11 {M : Mem} (h : TpS M) : CuS M 29 := h.2.2.2.2.2.2.2.1.2
theorem TpS.r12 {M : Mem} (h : TpS M) : mR M 1 12 = 35 := h.2.2.2.2.2.2.2.2.1.1
theorem TpS.k12 {M : Mem} (h : TpS M) : JoS M 35 := h.2.2.2.2.2.2.2.2.1.2
theorem TpS.r13 {M : Mem} (h : TpS M) : mR M 1 13 = 38 := h.2.2.2.2.2.2.2.2.2.1.1
theorem TpS.k13 {M : Mem} (h : TpS M) : MiS M 38 := h.2.2.2.2.2.2.2.2.2.1.2
theorem TpS.r14 {M : Mem} (h : TpS M) : mR M 1 14 = 67 := h.2.2.2.2.2.2.2.2.2.2.1.1
theorem TpS.k14 {M : Mem} (h : TpS M) : GaS M 67 := h.2.2.2.2.2.2.2.2.2.2.1.2
theorem TpS.r15 {M : Mem} (h : TpS M) : mR M 1 15 = 72 := h.2.2.2.2.2.2.2.2.2.2.2.1.1
theorem TpS.k15 {M : Mem} (h : TpS M) : isK M 72 14 240 := h.2.2.2.2.2.2.2.2.2.2.2.1.2
theorem TpS.r16 {M : Mem} (h : TpS M) : mR M 1 16 = 73 := h.2.2.2.2.2.2.2.2.2.2.2.2.1.1
theorem TpS.k16 {M : Mem} (h : TpS M) : isK M 73 14 8 := h.2.2.2.2.2.2.2.2.2.2.2.2.1.2
theorem TpS.r17 {M : Mem} (h : TpS M) : mR M 1 17 = 74 := h.2.2.2.2.2.2.2.2.2.2.2.2.2.1
theorem TpS.k17 {M : Mem} (h : TpS M) : isK M 74 14 8 := h.2.2.2.2.2.2.2.2.2.2.2.2.2.2
theorem TpS.ext {M M1 : Mem} (h : TpS M) (hE : Ext M M1) : TpS M1 := ⟨hE.1 _ _ _ (TpS.o h), ⟨(hE.2 _ 10 0 _ (TpS.o h) rfl).trans (TpS.r0 h), TaS.ext (TpS.k0 h) hE⟩, ⟨(hE.2 _ 10 1 _ (TpS.o h) rfl).trans (TpS.r1 h), LtS.ext (TpS.k1 h) hE⟩, ⟨(hE.2 _ 10 2 _ (TpS.o h) rfl).trans (TpS.r2 h), PtS.ext (TpS.k2 h) hE⟩, ⟨(hE.2 _ 10 3 _ (TpS.o h) rfl).trans (TpS.r3 h), hE.1 _ _ _ (TpS.k3 h)⟩, ⟨(hE.2 _ 10 4 _ (TpS.o h) rfl).trans (TpS.r4 h), hE.1 _ _ _ (TpS.k4 h)⟩, ⟨(hE.2 _ 10 5 _ (TpS.o h) rfl).trans (TpS.r5 h), hE.1 _ _ _ (TpS.k5 h)⟩, ⟨(hE.2 _ 10 11 _ (TpS.o h) rfl).trans (TpS.r11 h), CuS.ext (TpS.k11 h) hE⟩, ⟨(hE.2 _ 10 12 _ (TpS.o h) rfl).trans (TpS.r12 h), JoS.ext (TpS.k12 h) hE⟩, ⟨(hE.2 _ 10 13 _ (TpS.o h) rfl).trans (TpS.r13 h), MiS.ext (TpS.k13 h) hE⟩, ⟨(hE.2 _ 10 14 _ (TpS.o h) rfl).trans (TpS.r14 h), GaS.ext (TpS.k14 h) hE⟩, ⟨(hE.2 _ 10 15 _ (TpS.o h) rfl).trans (TpS.r15 h), hE.1 _ _ _ (TpS.k15 h)⟩, ⟨(hE.2 _ 10 16 _ (TpS.o h) rfl).trans (TpS.r16 h), hE.1 _ _ _ (TpS.k16 h)⟩, ⟨(hE.2 _ 10 17 _ (TpS.o h) rfl).trans (TpS.r17 h), hE.1 _ _ _ (TpS.k17 h)⟩⟩
/-- TwoPencilsModel -/
def RfS (M : Mem) : Prop := isK M 75 11 54 ∧ (mR M 75 1 = 76 ∧ isK M 76 14 300) ∧ (mR M 75 5 = 77 ∧ isK M 77 14 7) ∧ (mR M 75 6 = 78 ∧ isK M 78 14 7) ∧ (mR M 75 7 = 79 ∧ isK M 79 14 7) ∧ (mR M 75 8 = 80 ∧ isK M 80 14 7) ∧ (mR M 75 9 = 81 ∧ isK M 81 14 189) ∧ (mR M 75 10 = 82 ∧ isK M 82 14 63) ∧ (mR M 75 11 = 83 ∧ isK M 83 14 63) ∧ (mR M 75 13 = 84 ∧ isK M 84 14 9) ∧ (mR M 75 14 = 85 ∧ isK M 85 14 54) ∧ (mR M 75 15 = 86 ∧ isK M 86 14 54) ∧ (mR M 75 17 = 87 ∧ isK M 87 14 512) ∧ (mR M 75 18 = 88 ∧ isK M 88 14 512) ∧ (mR M 75 20 = 89 ∧ isK M 89 14 40000) ∧ (mR M 75 21 = 90 ∧ isK M 90 14 40) ∧ (mR M 75 23 = 91 ∧ isK M 91 14 4) ∧ (mR M 75 33 = 92 ∧ isK M 92 14 4) ∧ (mR M 75 34 = 93 ∧ isK M 93 14 8) ∧ (mR M 75 43 = 94 ∧ isK M 94 14 2560) ∧ (mR M 75 44 = 95 ∧ isK M 95 15 2560) ∧ (mR M 75 45 = 96 ∧ isK M 96 14 8000) ∧ (mR M 75 46 = 97 ∧ isK M 97 14 8) ∧ (mR M 75 47 = 98 ∧ isK M 98 14 8) ∧ (mR M 75 48 = 99 ∧ isK M 99 14 96) ∧ (mR M 75 49 = 100 ∧ isK M 100 14 96) ∧ (mR M 75 50 = 101 ∧ isK M 101 14 8) ∧ (mR M 75 52 = 102 ∧ isK M 102 14 2) ∧ (mR M 75 53 = 103 ∧ isK M 103 14 2)
theorem RfS.o {M : Mem} (h : RfS M) : isK M 75 11 54 := h.1
theorem RfS.r1 {M : Mem} (h : RfS M) : mR M 75 1 = 76 := h.2.1.1
theorem RfS.k1 {M : Mem} (h : RfS M) : isK M 76 14 300 := h.2.1.2
theorem RfS.r5 {M : Mem} (h : RfS M) : mR M 75 5 = 77 := h.2.2.1.1
theorem RfS.k5 {M : Mem} (h : RfS M) : isK M 77 14 7 := h.2.2.1.2
theorem RfS.r6 {M : Mem} (h : RfS M) : mR M 75 6 = 78 := h.2.2.2.1.1
theorem RfS.k6 {M : Mem} (h : RfS M) : isK M 78 14 7 := h.2.2.2.1.2
theorem RfS.r7 {M : Mem} (h : RfS M) : mR M 75 7 = 79 := h.2.2.2.2.1.1
theorem RfS.k7 {M : Mem} (h : RfS M) : isK M 79 14 7 := h.2.2.2.2.1.2
theorem RfS.r8 {M : Mem} (h : RfS M) : mR M 75 8 = 80 := h.2.2.2.2.2.1.1
theorem RfS.k8 {M : Mem} (h : RfS M) : isK M 80 14 7 := h.2.2.2.2.2.1.2
theorem RfS.r9 {M : Mem} (h : RfS M) : mR M 75 9 = 81 := h.2.2.2.2.2.2.1.1
theorem RfS.k9 {M : Mem} (h : RfS M) : isK M 81 14 189 := h.2.2.2.2.2.2.1.2
theorem RfS.r10 {M : Mem} (h : RfS M) : mR M 75 10 = 82 := h.2.2.2.2.2.2.2.1.1
theorem RfS.k10 {M : Mem} (h : RfS M) : isK M 82 14 63 := h.2.2.2.2.2.2.2.1.2
theorem RfS.r11 {M : Mem} (h : RfS M) : mR M 75 11 = 83 := h.2.2.2.2.2.2.2.2.1.1
theorem RfS.k11 {M : Mem} (h : RfS M) : isK M 83 14 63 := h.2.2.2.2.2.2.2.2.1.2
theorem RfS.r13 {M : Mem} (h : RfS M) : mR M 75 13 = 84 := h.2.2.2.2.2.2.2.2.2.1.1
theorem RfS.k13 {M : Mem} (h : RfS M) : isK M 84 14 9 := h.2.2.2.2.2.2.2.2.2.1.2
theorem RfS.r14 {M : Mem} (h : RfS M) : mR M 75 14 = 85 := h.2.2.2.2.2.2.2.2.2.2.1.1
theorem RfS.k14 {M : Mem} (h : RfS M) : isK M 85 14 54 := h.2.2.2.2.2.2.2.2.2.2.1.2
theorem RfS.r15 {M : Mem} (h : RfS M) : mR M 75 15 = 86 := h.2.2.2.2.2.2.2.2.2.2.2.1.1
theorem RfS.k15 {M : Mem} (h : RfS M) : isK M 86 14 54 := h.2.2.2.2.2.2.2.2.2.2.2.1.2
theorem RfS.r17 {M : Mem} (h : RfS M) : mR M 75 17 = 87 := h.2.2.2.2.2.2.2.2.2.2.2.2.1.1
theorem RfS.k17 {M : Mem} (h : RfS M) : isK M 87 14 512 := h.2.2.2.2.2.2.2.2.2.2.2.2.1.2
theorem RfS.r18 {M : Mem} (h : RfS M) : mR M 75 18 = 88 := h.2.2.2.2.2.2.2.2.2.2.2.2.2.1.1
theorem RfS.k18 {M : Mem} (h : RfS M) : isK M 88 14 512 := h.2.2.2.2.2.2.2.2.2.2.2.2.2.1.2
theorem RfS.r20 {M : Mem} (h : RfS M) : mR M 75 20 = 89 := h.2.2.2.2.2.2.2.2.2.2.2.2.2.2.1.1
theorem RfS.k20 {M : Mem} (h : RfS M) : isK M 89 14 40000 := h.2.2.2.2.2.2.2.2.2.2.2.2.2.2.1.2
theorem RfS.r21 {M : Mem} (h : RfS M) : mR M 75 21 = 90 := h.2.2.2.2.2.2.2.2.2.2.2.2.2.2.2.1.1
theorem RfS.k21 {M : Mem} (h : RfS M) : isK M 90 14 40 := h.2.2.2.2.2.2.2.2.2.2.2.2.2.2.2.1.2
theorem RfS.r23 {M : Mem} (h : RfS M) : mR M 75 23 = 91 := h.2.2.2.2.2.2.2.2.2.2.2.2.2.2.2.2.1.1
theorem RfS.k23 {M : Mem} (h : RfS M) : isK M 91 14 4 := h.2.2.2.2.2.2.2.2.2.2.2.2.2.2.2.2.1.2
theorem RfS.r33 {M : Mem} (h : RfS M) : mR M 75 33 = 92 := h.2.2.2.2.2.2.2.2.2.2.2.2.2.2.2.2.2.1.1
theorem RfS.k33 {M : Mem} (h : RfS M) : isK M 92 14 4 := h.2.2.2.2.2.2.2.2.2.2.2.2.2.2.2.2.2.1.2
theorem RfS.r34 {M : Mem} (h : RfS M) : mR M 75 34 = 93 := h.2.2.2.2.2.2.2.2.2.2.2.2.2.2.2.2.2.2.1.1
theorem RfS.k34 {M : Mem} (h : RfS M) : isK M 93 14 8 := h.2.2.2.2.2.2.2.2.2.2.2.2.2.2.2.2.2.2.1.2
theorem RfS.r43 {M : Mem} (h : RfS M) : mR M 75 43 = 94 := h.2.2.2.2.2.2.2.2.2.2.2.2.2.2.2.2.2.2.2.1.1
theorem RfS.k43 {M : Mem} (h : RfS M) : isK M 94 14 2560 := h.2.2.2.2.2.2.2.2.2.2.2.2.2.2.2.2.2.2.2.1.2
theorem RfS.r44 {M : Mem} (h : RfS M) : mR M 75 44 = 95 := h.2.2.2.2.2.2.2.2.2.2.2.2.2.2.2.2.2.2.2.2.1.1
theorem RfS.k44 {M : Mem} (h : RfS M) : isK M 95 15 2560 := h.2.2.2.2.2.2.2.2.2.2.2.2.2.2.2.2.2.2.2.2.1.2
theorem RfS.r45 {M : Mem} (h : RfS M) : mR M 75 45 = 96 := h.2.2.2.2.2.2.2.2.2.2.2.2.2.2.2.2.2.2.2.2.2.1.1
theorem RfS.k45 {M : Mem} (h : RfS M) : isK M 96 14 8000 := h.2.2.2.2.2.2.2.2.2.2.2.2.2.2.2.2.2.2.2.2.2.1.2
theorem RfS.r46 {M : Mem} (h : RfS M) : mR M 75 46 = 97 := h.2.2.2.2.2.2.2.2.2.2.2.2.2.2.2.2.2.2.2.2.2.2.1.1
theorem RfS.k46 {M : Mem} (h : RfS M) : isK M 97 14 8 := h.2.2.2.2.2.2.2.2.2.2.2.2.2.2.2.2.2.2.2.2.2.2.1.2
theorem RfS.r47 {M : Mem} (h : RfS M) : mR M 75 47 = 98 := h.2.2.2.2.2.2.2.2.2.2.2.2.2.2.2.2.2.2.2.2.2.2.2.1.1
theorem RfS.k47 {M : Mem} (h : RfS M) : isK M 98 14 8 := h.2.2.2.2.2.2.2.2.2.2.2.2.2.2.2.2.2.2.2.2.2.2.2.1.2
theorem RfS.r48 {M : Mem} (h : RfS M) : mR M 75 48 = 99 := h.2.2.2.2.2.2.2.2.2.2.2.2.2.2.2.2.2.2.2.2.2.2.2.2.1.1
theorem RfS.k48 {M : Mem} (h : RfS M) : isK M 99 14 96 := h.2.2.2.2.2.2.2.2.2.2.2.2.2.2.2.2.2.2.2.2.2.2.2.2.1.2
theorem RfS.r49 {M : Mem} (h : RfS M) : mR M 75 49 = 100 := h.2.2.2.2.2.2.2.2.2.2.2.2.2.2.2.2.2.2.2.2.2.2.2.2.2.1.1
theorem RfS.k49 {M : Mem} (h : RfS M) : isK M 100 14 96 := h.2.2.2.2.2.2.2.2.2.2.2.2.2.2.2.2.2.2.2.2.2.2.2.2.2.1.2
theorem RfS.r50 {M : Mem} (h : RfS M) : mR M 75 50 = 101 := h.2.2.2.2.2.2.2.2.2.2.2.2.2.2.2.2.2.2.2.2.2.2.2.2.2.2.1.1
theorem RfS.k50 {M : Mem} (h : RfS M) : isK M 101 14 8 := h.2.2.2.2.2.2.2.2.2.2.2.2.2.2.2.2.2.2.2.2.2.2.2.2.2.2.1.2
theorem RfS.r52 {M : Mem} (h : RfS M) : mR M 75 52 = 102 := h.2.2.2.2.2.2.2.2.2.2.2.2.2.2.2.2.2.2.2.2.2.2.2.2.2.2.2.1.1
theorem RfS.k52 {M : Mem} (h : RfS M) : isK M 102 14 2 := h.2.2.2.2.2.2.2.2.2.2.2.2.2.2.2.2.2.2.2.2.2.2.2.2.2.2.2.1.2
theorem RfS.r53 {M : Mem} (h : RfS M) : mR M 75 53 = 103 := h.2.2.2.2.2.2.2.2.2.2.2.2.2.2.2.2.2.2.2.2.2.2.2.2.2.2.2.2.1
theorem RfS.k53 {M : Mem} (h : RfS M) : isK M 103 14 2 := h.2.2.2.2.2.2.2.2.2.2.2.2.2.2.2.2.2.2.2.2.2.2.2.2.2.2.2.2.2
theorem RfS.ext {M M1 : Mem} (h : RfS M) (hE : Ext M M1) : RfS M1 := ⟨hE.1 _ _ _ (RfS.o h), ⟨(hE.2 _ 11 1 _ (RfS.o h) rfl).trans (RfS.r1 h), hE.1 _ _ _ (RfS.k1 h)⟩, ⟨(hE.2 _ 11 5 _ (RfS.o h) rfl).trans (RfS.r5 h), hE.1 _ _ _ (RfS.k5 h)⟩, ⟨(hE.2 _ 11 6 _ (RfS.o h) rfl).trans (RfS.r6 h), hE.1 _ _ _ (RfS.k6 h)⟩, ⟨(hE.2 _ 11 7 _ (RfS.o h) rfl).trans (RfS.r7 h), hE.1 _ _ _ (RfS.k7 h)⟩, ⟨(hE.2 _ 11 8 _ (RfS.o h) rfl).trans (RfS.r8 h), hE.1 _ _ _ (RfS.k8 h)⟩, ⟨(hE.2 _ 11 9 _ (RfS.o h) rfl).trans (RfS.r9 h), hE.1 _ _ _ (RfS.k9 h)⟩, ⟨(hE.2 _ 11 10 _ (RfS.o h) rfl).trans (RfS.r10 h), hE.1 _ _ _ (RfS.k10 h)⟩, ⟨(hE.2 _ 11 11 _ (RfS.o h) rfl).trans (RfS.r11 h), hE.1 _ _ _ (RfS.k11 h)⟩, ⟨(hE.2 _ 11 13 _ (RfS.o h) rfl).trans (RfS.r13 h), hE.1 _ _ _ (RfS.k13 h)⟩, ⟨(hE.2 _ 11 14 _ (RfS.o h) rfl).trans (RfS.r14 h), hE.1 _ _ _ (RfS.k14 h)⟩, ⟨(hE.2 _ 11 15 _ (RfS.o h) rfl).trans (RfS.r15 h), hE.1 _ _ _ (RfS.k15 h)⟩, ⟨(hE.2 _ 11 17 _ (RfS.o h) rfl).trans (RfS.r17 h), hE.1 _ _ _ (RfS.k17 h)⟩, ⟨(hE.2 _ 11 18 _ (RfS.o h) rfl).trans (RfS.r18 h), hE.1 _ _ _ (RfS.k18 h)⟩, ⟨(hE.2 _ 11 20 _ (RfS.o h) rfl).trans (RfS.r20 h), hE.1 _ _ _ (RfS.k20 h)⟩, ⟨(hE.2 _ 11 21 _ (RfS.o h) rfl).trans (RfS.r21 h), hE.1 _ _ _ (RfS.k21 h)⟩, ⟨(hE.2 _ 11 23 _ (RfS.o h) rfl).trans (RfS.r23 h), hE.1 _ _ _ (RfS.k23 h)⟩, ⟨(hE.2 _ 11 33 _ (RfS.o h) rfl).trans (RfS.r33 h), hE.1 _ _ _ (RfS.k33 h)⟩, ⟨(hE.2 _ 11 34 _ (RfS.o h) rfl).trans (RfS.r34 h), hE.1 _ _ _ (RfS.k34 h)⟩, ⟨(hE.2 _ 11 43 _ (RfS.o h) rfl).trans (RfS.r43 h), hE.1 _ _ _ (RfS.k43 h)⟩, ⟨(hE.2 _ 11 44 _ (RfS.o h) rfl).trans (RfS.r44 h), hE.1 _ _ _ (RfS.k44 h)⟩, ⟨(hE.2 _ 11 45 _ (RfS.o h) rfl).trans (RfS.r45 h), hE.1 _ _ _ (RfS.k45 h)⟩, ⟨(hE.2 _ 11 46 _ (RfS.o h) rfl).trans (RfS.r46 h), hE.1 _ _ _ (RfS.k46 h)⟩, ⟨(hE.2 _ 11 47 _ (RfS.o h) rfl).trans (RfS.r47 h), hE.1 _ _ _ (RfS.k47 h)⟩, ⟨(hE.2 _ 11 48 _ (RfS.o h) rfl).trans (RfS.r48 h), hE.1 _ _ _ (RfS.k48 h)⟩, ⟨(hE.2 _ 11 49 _ (RfS.o h) rfl).trans (RfS.r49 h), hE.1 _ _ _ (RfS.k49 h)⟩, ⟨(hE.2 _ 11 50 _ (RfS.o h) rfl).trans (RfS.r50 h), hE.1 _ _ _ (RfS.k50 h)⟩, ⟨(hE.2 _ 11 52 _ (RfS.o h) rfl).trans (RfS.r52 h), hE.1 _ _ _ (RfS.k52 h)⟩, ⟨(hE.2 _ 11 53 _ (RfS.o h) rfl).trans (RfS.r53 h), hE.1 _ _ _ (RfS.k53 h)⟩⟩
section MORE
variable {X : Cx} {d kc ns : Nat} {mt : MT} {pc n : Nat} {L L' : List (Option AV)} {S : List AV} {M : Mem} {Q : Option AV → Mem → Prop}
theorem x_getRc {a ci k idx n0 b : Nat} (hd : DC mt.2.1 pc (.getfield idx) 3 n) (hl : lnk mt.1.cls idx ci k) (hf : (decide (ci < 12) && decide (k < NC ci) && rfC ci k) = true) (ho : isK M a ci n0) (hv : mR M a k = b) (h : WA X d kc ns mt n L (vR b :: S) M Q) : WA X d kc ns mt pc L (vR a :: S) M Q := by
  subst hv
  exact x_getR hd hl hf ho h
theorem x_iincW {i : Nat} {k : Int} {x w : Int32} (hd : DC mt.2.1 pc (.iinc i k) 3 n) (hx : L[i]? = some (some (vI x))) (hv : Int32.ofInt k = w) (ho : okS L i = true) (hn : i < mt.2.2.1) (hL : L.set i (some (vI (x + w))) = L') (h : WA X d kc ns mt n L' S M Q) : WA X d kc ns mt pc L S M Q :=
  x_iinc hd hx (by rw [hv]) ho hn hL h
theorem x_iremR {x y : Int32} (hd : DC mt.2.1 pc .irem 1 n) (hne : ¬ y = 0) (h : WA X d kc ns mt n L (vI (remI x y) :: S) M Q) : WA X d kc ns mt pc L (vI y :: vI x :: S) M Q := x_irem hd hne h
def lcmpV (x y : Int64) : Int32 := lg_cmp x y
theorem x_lcmp {x y : Int64} (hd : DC mt.2.1 pc .lcmp 1 n) (h : WA X d kc ns mt n L (vI (lcmpV x y) :: S) M Q) : WA X d kc ns mt pc L (vJ y :: vJ x :: S) M Q := by
  obtain ⟨hd, rfl⟩ := hd
  exact h.st fun p e R s m args below meth c H locs cells slots ls Qf E w => W.lcmp E.1.1 E.1.2.1 hd w
theorem WA_nm (h : ∀ M1 : Mem, M1 = M → WA X d kc ns mt pc L S M1 Q) : WA X d kc ns mt pc L S M Q := h M rfl
def msk : List Bool → List (Option AV) → List (Option AV)
  | true :: bs, v :: t => v :: msk bs t
  | false :: bs, _ :: t => none :: msk bs t
  | _, _ => []
theorem msk_at : ∀ (bs : List Bool) (L : List (Option AV)) (i : Nat) (v : AV), (msk bs L)[i]? = some (some v) → L[i]? = some (some v)
  | true :: bs, w :: t, 0, v, h => h
  | true :: bs, w :: t, i + 1, v, h => msk_at bs t i v h
  | false :: bs, w :: t, 0, v, h => by cases h
  | false :: bs, w :: t, i + 1, v, h => msk_at bs t i v h
  | [], L, i, v, h => by simp [msk] at h
  | true :: bs, [], i, v, h => by simp [msk] at h
  | false :: bs, [], i, v, h => by simp [msk] at h
theorem x_msk (bs : List Bool) (h : WA X d kc ns mt pc (msk bs L) S M Q) : WA X d kc ns mt pc L S M Q := x_forget (fun i v hv => msk_at bs L i v hv) h
theorem x_callV0 {my : MT} {na ci a n0 idx : Nat} {As : List AV} {St : List AV} {Q' : Option AV → Mem → Prop} (hd : DC mt.2.1 pc (.invokevirtual idx) 3 n) (hl : mlk mt.1.cls idx my.1) (hm : mOKV my na ci) (ho : isK M a ci n0) (hna : As.length = na) (hst : As.reverse ++ vR a :: S = St) (hS4 : wS S ≤ 8) (hd1 : 1 ≤ d)
    (hcl : Cl X (d - 1) 0 0 my (vR a :: As) M Q') (kk : ∀ (r : Option AV) (M' : Mem), Q' r M' → WA X d kc ns mt n L (r.toList ++ S) M' Q) : WA X d kc ns mt pc L St M Q := x_callV hd hl hm ho hna hst hS4 hd1 (Nat.zero_le _) (Nat.zero_le _) hcl kk
theorem x_callS0 {my : MT} {na idx : Nat} {As : List AV} {St : List AV} {Q' : Option AV → Mem → Prop} (hd : DC mt.2.1 pc (.invokestatic idx) 3 n) (hl : mlk mt.1.cls idx my.1) (hm : mOKS my na) (hna : As.length = na) (hst : As.reverse ++ S = St) (hS4 : wS S ≤ 8) (hd1 : 1 ≤ d)
    (hcl : Cl X (d - 1) 0 0 my As M Q') (kk : ∀ (r : Option AV) (M' : Mem), Q' r M' → WA X d kc ns mt n L (r.toList ++ S) M' Q) : WA X d kc ns mt pc L St M Q := x_callS hd hl hm hna hst hS4 hd1 (Nat.zero_le _) (Nat.zero_le _) hcl kk
theorem x_callI0 {my : MT} {na ci a n0 idx : Nat} {As : List AV} {St : List AV} {Q' : Option AV → Mem → Prop} (hd : DC mt.2.1 pc (.invokespecial idx) 3 n) (hl : mlk mt.1.cls idx my.1) (hm : mOKI my na ci) (ho : isK M a ci n0) (hna : As.length = na) (hst : As.reverse ++ vR a :: S = St) (hS4 : wS S ≤ 8) (hd1 : 1 ≤ d)
    (hcl : Cl X (d - 1) 0 0 my (vR a :: As) M Q') (kk : ∀ (r : Option AV) (M' : Mem), Q' r M' → WA X d kc ns mt n L (r.toList ++ S) M' Q) : WA X d kc ns mt pc L St M Q := x_callI hd hl hm ho hna hst hS4 hd1 (Nat.zero_le _) (Nat.zero_le _) hcl kk
end MORE
