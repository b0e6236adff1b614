/-! PURE PART: small numbers in Int32, bits -/
theorem px_lit (n : Nat) : (OfNat.ofNat n : Int32) = nI (OfNat.ofNat n) := rfl
theorem px_and (a b : Nat) : nI a &&& nI b = nI (a &&& b) := by
  apply Int32.toBitVec_inj.1
  show BitVec.ofNat 32 a &&& BitVec.ofNat 32 b = BitVec.ofNat 32 (a &&& b)
  apply BitVec.eq_of_getLsbD_eq
  intro i hi
  simp [hi]
theorem px_or (a b : Nat) : nI a ||| nI b = nI (a ||| b) := by
  apply Int32.toBitVec_inj.1
  show BitVec.ofNat 32 a ||| BitVec.ofNat 32 b = BitVec.ofNat 32 (a ||| b)
  apply BitVec.eq_of_getLsbD_eq
  intro i hi
  simp [hi]
theorem px_xor (a b : Nat) : nI a ^^^ nI b = nI (a ^^^ b) := by
  apply Int32.toBitVec_inj.1
  show BitVec.ofNat 32 a ^^^ BitVec.ofNat 32 b = BitVec.ofNat 32 (a ^^^ b)
  apply BitVec.eq_of_getLsbD_eq
  intro i hi
  simp [hi]
theorem px_m1 : (-1 : Int32) = nI 4294967295 := by decide
theorem px_m2 : (-2 : Int32) = nI 4294967294 := by decide
/-- and-not -/
def nd (a b : Nat) : Nat := a &&& (b ^^^ 4294967295)
theorem px_nd (a b : Nat) : nI a &&& (nI b ^^^ (-1 : Int32)) = nI (nd a b) := by rw [px_m1, px_xor, px_and]; rfl
theorem tb_big {a i n : Nat} (h : a < 2 ^ n) (hi : n ≤ i) : a.testBit i = false := Nat.testBit_lt_two_pow (Nat.lt_of_lt_of_le h (Nat.pow_le_pow_right (by decide) hi))
theorem tb_ones {i : Nat} (h : i < 32) : (4294967295 : Nat).testBit i = true := by
  rw [show (4294967295 : Nat) = 2 ^ 32 - 1 from rfl, Nat.testBit_two_pow_sub_one]
  simp [h]
theorem nd_tb {a b i : Nat} (ha : a < 2 ^ 32) : (nd a b).testBit i = (a.testBit i && !b.testBit i) := by
  unfold nd
  rw [Nat.testBit_and, Nat.testBit_xor]
  by_cases h : i < 32
  · rw [tb_ones h]; cases a.testBit i <;> cases b.testBit i <;> rfl
  · rw [tb_big ha (Nat.le_of_not_lt h)]; rfl
theorem nd_le (a b : Nat) : nd a b ≤ a := Nat.and_le_left
theorem px_cnt : ∀ k, k < 32 → ((nI k &&& 31).toBitVec.smod 32).toNat = k := by decide +kernel
/-- one bit by its number -/
theorem px_shl1 : ∀ k, k < 31 → (1 : Int32) <<< (nI k &&& 31) = nI (2 ^ k) := by decide +kernel
theorem px_shr {a k : Nat} (ha : a < 2 ^ 31) (hk : k < 32) : nI a >>> (nI k &&& 31) = nI (a / 2 ^ k) := pk_shrN ha _ k (px_cnt k hk)
theorem px_shl {a k : Nat} (hk : k < 32) (ha : a * 2 ^ k < 2 ^ 32) : nI a <<< (nI k &&& 31) = nI (a * 2 ^ k) := pk_shlN _ k (px_cnt k hk) ha
theorem px_and1 (a : Nat) : nI a &&& (1 : Int32) = nI (a % 2) := by rw [show (1 : Int32) = nI 1 from rfl, px_and, Nat.and_one_is_mod]
theorem px_bit {a k : Nat} (ha : a < 2 ^ 31) (hk : k < 32) : ((nI a >>> (nI k &&& 31)) &&& (1 : Int32)) = 0 ↔ a.testBit k = false := by
  rw [px_shr ha hk, px_and1, ← nI_0, nI_eq (by omega) (by omega), Nat.testBit_eq_decide_div_mod_eq, decide_eq_false_iff_not]
  omega
theorem px_bit1 {a k : Nat} (ha : a < 2 ^ 31) (hk : k < 32) : ((nI a >>> (nI k &&& 31)) &&& (1 : Int32)) = 1 ↔ a.testBit k = true := by
  rw [px_shr ha hk, px_and1, show (1 : Int32) = nI 1 from rfl, nI_eq (by omega) (by omega), Nat.testBit_eq_decide_div_mod_eq, decide_eq_true_iff]
theorem or_lt {a b n : Nat} (ha : a < 2 ^ n) (hb : b < 2 ^ n) : a ||| b < 2 ^ n := Nat.or_lt_two_pow ha hb
theorem tb_or (a b i : Nat) : (a ||| b).testBit i = (a.testBit i || b.testBit i) := Nat.testBit_or a b i
theorem tb_and (a b i : Nat) : (a &&& b).testBit i = (a.testBit i && b.testBit i) := Nat.testBit_and a b i
theorem tb_pow (k i : Nat) : (2 ^ k).testBit i = decide (k = i) := Nat.testBit_two_pow
theorem tb_m1 (k i : Nat) : (2 ^ k - 1).testBit i = decide (i < k) := Nat.testBit_two_pow_sub_one k i
theorem tb_ext {a b : Nat} (h : ∀ i, a.testBit i = b.testBit i) : a = b := Nat.eq_of_testBit_eq h
theorem px_neg9 : (-9 : Int32) < 0 := by decide
theorem px_n9 {k : Nat} (h : k < 2 ^ 31) : ¬ (nI k = (-9 : Int32)) := by
  intro e
  have := nI_pos h
  rw [e] at this
  exact this px_neg9
theorem px_n9' {k : Nat} (h : k < 2 ^ 31) : ¬ ((-9 : Int32) = nI k) := fun e => px_n9 h e.symm
/-- a number read from a row is in it -/
theorem px_in {k n : Nat} (h : k < n) (hn : n < 2 ^ 31) : vp_in (nI k) n := vp_in_nI h hn
theorem px_cl {k : Nat} (h : k < 2 ^ 31) : (nI k).toNatClampNeg = k := nI_clamp h
/-- any Int32 is below, inside or above -/
theorem px_cases (x : Int32) (n : Nat) (hn : n < 2 ^ 31) : x < 0 ∨ (∃ k, k < n ∧ x = nI k) ∨ ∃ k, n ≤ k ∧ k < 2 ^ 31 ∧ x = nI k := by
  by_cases h : x < 0
  · exact Or.inl h
  · obtain ⟨j, hj, e⟩ := nI_of h
    by_cases hjn : j < n
    · exact Or.inr (Or.inl ⟨j, hjn, e⟩)
    · exact Or.inr (Or.inr ⟨j, Nat.le_of_not_lt hjn, hj, e⟩)
theorem px_neg_lt {x : Int32} (h : x < 0) {k : Nat} (hk : k < 2 ^ 31) : x < nI k := by
  rw [Int32.lt_iff_toInt_lt] at *
  rw [nI_toInt hk]
  have : (0 : Int32).toInt = 0 := rfl
  omega
theorem px_neg_nle {x : Int32} (h : x < 0) {k : Nat} (hk : k < 2 ^ 31) : ¬ nI k ≤ x := by
  rw [Int32.lt_iff_toInt_lt] at h
  rw [Int32.le_iff_toInt_le, nI_toInt hk]
  have : (0 : Int32).toInt = 0 := rfl
  omega
theorem px_neg_le {x : Int32} (h : x < 0) {k : Nat} (hk : k < 2 ^ 31) : x ≤ nI k := by
  rw [Int32.lt_iff_toInt_lt] at h
  rw [Int32.le_iff_toInt_le, nI_toInt hk]
  have : (0 : Int32).toInt = 0 := rfl
  omega
theorem px_neg_nlt {x : Int32} (h : x < 0) {k : Nat} (hk : k < 2 ^ 31) : ¬ nI k < x := by
  rw [Int32.lt_iff_toInt_lt] at *
  rw [nI_toInt hk]
  have : (0 : Int32).toInt = 0 := rfl
  omega
theorem px_neg_ne {x : Int32} (h : x < 0) {k : Nat} (hk : k < 2 ^ 31) : ¬ x = nI k := fun e => nI_pos hk (e ▸ h)
theorem up_s {f : IA} {k : Nat} {x : Int32} : upd f k x k = x := pk_us
theorem up_n {f : IA} {k j : Nat} {x : Int32} (h : j ≠ k) : upd f k x j = f j := pk_un h
theorem cp_in {f g : IA} {n j : Nat} (h : j < n) : va_cpy f g 0 0 n j = f j := by
  rw [pk_cpy_in (Nat.zero_le _) (by omega)]; simp
