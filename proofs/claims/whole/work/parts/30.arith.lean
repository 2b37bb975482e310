/-! ARITHMETIC: Int32 as numbers -/
theorem na_and (a b : Nat) : nI a &&& nI b = nI (a &&& b) := by
  apply Int32.toBitVec_inj.1
  show BitVec.ofNat 32 a &&& BitVec.ofNat 32 b = BitVec.ofNat 32 (a &&& b)
  apply BitVec.eq_of_getLsbD_eq
  intro i hi
  simp [hi]
theorem na_or (a b : Nat) : nI a ||| nI b = nI (a ||| b) := by
  apply Int32.toBitVec_inj.1
  show BitVec.ofNat 32 a ||| BitVec.ofNat 32 b = BitVec.ofNat 32 (a ||| b)
  apply BitVec.eq_of_getLsbD_eq
  intro i hi
  simp [hi]
theorem na_xor (a b : Nat) : nI a ^^^ nI b = nI (a ^^^ b) := by
  apply Int32.toBitVec_inj.1
  show BitVec.ofNat 32 a ^^^ BitVec.ofNat 32 b = BitVec.ofNat 32 (a ^^^ b)
  apply BitVec.eq_of_getLsbD_eq
  intro i hi
  simp [hi]
/-- a without b -/
def dif (a b : Nat) : Nat := a ^^^ (a &&& b)
theorem tb_dif (a b i : Nat) : (dif a b).testBit i = (a.testBit i && !b.testBit i) := by
  unfold dif; rw [Nat.testBit_xor, Nat.testBit_and]
  cases a.testBit i <;> cases b.testBit i <;> rfl
theorem na_dif (a b : Nat) : nI a &&& (nI b ^^^ (-1)) = nI (dif a b) := by
  apply Int32.toBitVec_inj.1
  show BitVec.ofNat 32 a &&& (BitVec.ofNat 32 b ^^^ (-1 : Int32).toBitVec) = BitVec.ofNat 32 (dif a b)
  rw [show (-1 : Int32).toBitVec = BitVec.allOnes 32 by decide]
  apply BitVec.eq_of_getLsbD_eq
  intro i hi
  rw [BitVec.getLsbD_and, BitVec.getLsbD_xor, BitVec.getLsbD_allOnes, BitVec.getLsbD_ofNat, BitVec.getLsbD_ofNat, BitVec.getLsbD_ofNat, tb_dif]
  simp only [hi, decide_true, Bool.true_and]
  cases a.testBit i <;> cases b.testBit i <;> rfl
theorem s31 : ∀ k, k < 32 → ((nI k &&& 31).toBitVec.smod 32).toNat = k := by decide +kernel
theorem na_shl (a : Nat) {k : Nat} (hk : k < 32) : shl (nI a) (nI k) = nI (a <<< k) := by
  unfold shl
  apply Int32.toBitVec_inj.mp
  apply BitVec.eq_of_toNat_eq
  rw [pk_shl _ _ k (s31 k hk)]
  show (BitVec.ofNat 32 a).toNat * 2 ^ k % 2 ^ 32 = (BitVec.ofNat 32 (a <<< k)).toNat
  rw [BitVec.toNat_ofNat, BitVec.toNat_ofNat, Nat.shiftLeft_eq, Nat.mod_mul_mod]
theorem na_shr {a k : Nat} (ha : a < 2 ^ 31) (hk : k < 32) : shr (nI a) (nI k) = nI (a >>> k) := by
  unfold shr
  rw [pk_shrN ha _ k (s31 k hk), Nat.shiftRight_eq_div_pow]
theorem na_bit {a k : Nat} (ha : a < 2 ^ 31) (hk : k < 32) : shr (nI a) (nI k) &&& nI 1 = nI (if a.testBit k then 1 else 0) := by
  rw [na_shr ha hk, na_and]
  congr 1
  have h : (a >>> k &&& 1) = (a >>> k) % 2 := Nat.and_one_is_mod _
  rw [h]
  have h2 : a.testBit k = ((a >>> k) % 2 == 1) := by
    rw [Nat.testBit, Nat.one_and_eq_mod_two]
    rcases Nat.mod_two_eq_zero_or_one (a >>> k) with h3 | h3 <;> rw [h3] <;> rfl
  rw [h2]
  rcases Nat.mod_two_eq_zero_or_one (a >>> k) with h3 | h3 <;> rw [h3] <;> rfl
theorem na_ix {k : Nat} (h : k < 2 ^ 31) : ix (nI k) = k := nI_clamp h
theorem na_in {k n : Nat} (h : k < n) (hn : n < 2 ^ 31) : vp_in (nI k) n := vp_in_nI h hn
theorem na_sub {a b : Nat} (h : b ≤ a) : nI a - nI b = nI (a - b) := pk_sub h
theorem na_lt {a b : Nat} (ha : a < 2 ^ 31) (hb : b < 2 ^ 31) : nI a < nI b ↔ a < b := nI_ltI ha hb
theorem na_le {a b : Nat} (ha : a < 2 ^ 31) (hb : b < 2 ^ 31) : nI a ≤ nI b ↔ a ≤ b := nI_leI ha hb
theorem na_eq {a b : Nat} (ha : a < 2 ^ 31) (hb : b < 2 ^ 31) : nI a = nI b ↔ a = b := nI_eq ha hb
theorem na_m1 {a : Nat} (ha : a < 2 ^ 31) : ¬ nI a = (-1) := by
  intro h
  have := congrArg Int32.toInt h
  rw [nI_toInt ha, show (-1 : Int32).toInt = -1 by decide] at this
  omega
theorem na_rem {a d : Nat} (ha : a < 2 ^ 31) (h0 : 0 < d) (hd : d < 2 ^ 31) : remI (nI a) (nI d) = nI (a % d) := pk_rem ha h0 hd
/-- a boolean's number -/
def bI (b : Bool) : Int32 := if b then nI 1 else nI 0
theorem bI_B (b : Bool) : isB (bI b) := by cases b <;> simp [bI, isB] <;> decide
theorem bI_t : bI true = nI 1 := rfl
theorem bI_f : bI false = nI 0 := rfl
theorem bI_0 {b : Bool} : bI b = nI 0 ↔ b = false := by cases b <;> simp [bI] <;> decide
theorem bI_n0 {b : Bool} : ¬ bI b = nI 0 ↔ b = true := by cases b <;> simp [bI] <;> decide
/-! the memory -/
theorem mI_sI {M : Mem} {a i b j : Nat} {v : Int32} : mI (sI M a i v) b j = if b = a ∧ j = i then v else mI M b j := rfl
theorem mI_sI_eq {M : Mem} {a i : Nat} {v : Int32} : mI (sI M a i v) a i = v := by rw [mI_sI, if_pos ⟨rfl, rfl⟩]
theorem mI_sI_a {M : Mem} {a i b j : Nat} {v : Int32} (h : b ≠ a) : mI (sI M a i v) b j = mI M b j := by rw [mI_sI, if_neg (fun q => h q.1)]
theorem mI_sI_i {M : Mem} {a i b j : Nat} {v : Int32} (h : j ≠ i) : mI (sI M a i v) b j = mI M b j := by rw [mI_sI, if_neg (fun q => h q.2)]
theorem mR_sI {M : Mem} {a i b j : Nat} {v : Int32} : mR (sI M a i v) b j = mR M b j := rfl
theorem mI_sR {M : Mem} {a i v b j : Nat} : mI (sR M a i v) b j = mI M b j := rfl
theorem mR_sR {M : Mem} {a i b j v : Nat} : mR (sR M a i v) b j = if b = a ∧ j = i then v else mR M b j := rfl
theorem nx_sI {M : Mem} {a i : Nat} {v : Int32} : nx (sI M a i v) = nx M := rfl
theorem nx_sR {M : Mem} {a i v : Nat} : nx (sR M a i v) = nx M := rfl
/-- outside the places S nothing has changed -/
def Fr (S : Nat → Nat → Prop) (M M1 : Mem) : Prop := (∀ a i, ¬ S a i → mI M1 a i = mI M a i) ∧ M1.2 = M.2
theorem Fr.refl {S : Nat → Nat → Prop} {M : Mem} : Fr S M M := ⟨fun _ _ _ => rfl, rfl⟩
theorem Fr.trans {S : Nat → Nat → Prop} {M M1 M2 : Mem} (h1 : Fr S M M1) (h2 : Fr S M1 M2) : Fr S M M2 := ⟨fun a i h => (h2.1 a i h).trans (h1.1 a i h), h2.2.trans h1.2⟩
theorem Fr.mono {S T : Nat → Nat → Prop} {M M1 : Mem} (h : Fr S M M1) (hST : ∀ a i, S a i → T a i) : Fr T M M1 := ⟨fun a i q => h.1 a i (fun z => q (hST a i z)), h.2⟩
theorem Fr.sI {S : Nat → Nat → Prop} {M : Mem} {a i : Nat} {v : Int32} (h : S a i) : Fr S M (sI M a i v) := by
  refine ⟨fun b j hn => ?_, rfl⟩
  show (if b = a ∧ j = i then v else mI M b j) = mI M b j
  rw [if_neg]
  rintro ⟨rfl, rfl⟩
  exact hn h
theorem Fr.ext {S : Nat → Nat → Prop} {M M1 : Mem} (h : Fr S M M1) : Ext M M1 := by
  refine ⟨fun a k n hk => ?_, fun a ci k n _ _ => ?_⟩
  · unfold isK at *; rw [h.2]; exact hk
  · unfold mR; rw [h.2]
theorem Fr.at {S : Nat → Nat → Prop} {M M1 : Mem} (h : Fr S M M1) {a i : Nat} (hn : ¬ S a i) : mI M1 a i = mI M a i := h.1 a i hn
