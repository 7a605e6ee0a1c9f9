/-! Bits of an int and of a long. The first rows (bt, b_ .., s_l) are the kit's rows to paste (BITS, 'Int32 by its bits'). -/
section
def bt (x : Int32) (i : Nat) : Bool := x.toBitVec.getLsbD i
theorem b_ext {x y : Int32} (h : ∀ i, i < 32 → bt x i = bt y i) : x = y := Int32.toBitVec_inj.mp (BitVec.eq_of_getLsbD_eq (fun i hi => h i hi))
theorem b_or (x y : Int32) (i : Nat) : bt (x ||| y) i = (bt x i || bt y i) := by unfold bt; rw [Int32.toBitVec_or, BitVec.getLsbD_or]
theorem b_and (x y : Int32) (i : Nat) : bt (x &&& y) i = (bt x i && bt y i) := by unfold bt; rw [Int32.toBitVec_and, BitVec.getLsbD_and]
theorem b_0 (i : Nat) : bt 0 i = false := BitVec.getLsbD_zero
theorem s_l : ∀ n, n < 32 → ((nI n &&& 31).toBitVec.smod 32).toNat = n := by decide +kernel
theorem b_shl (n : Nat) (hn : n < 32) (x : Int32) {i : Nat} (hi : i < 32) : bt (x <<< (nI n &&& 31)) i = (decide (n ≤ i) && bt x (i - n)) := by
  unfold bt
  rw [Int32.toBitVec_shiftLeft]
  show (x.toBitVec <<< ((nI n &&& 31).toBitVec.smod 32).toNat).getLsbD i = _
  rw [s_l n hn, BitVec.getLsbD_shiftLeft]
  rcases Nat.lt_or_ge i n with h | h
  · simp [h, Nat.not_le.mpr h]
  · simp [hi, h, Nat.not_lt.mpr h]
theorem b_sshr (n : Nat) (hn : n < 32) (x : Int32) {i : Nat} (hi : i < 32) : bt (x >>> (nI n &&& 31)) i = if n + i < 32 then bt x (n + i) else bt x 31 := by
  unfold bt
  rw [Int32.toBitVec_shiftRight]
  show (x.toBitVec.sshiftRight ((nI n &&& 31).toBitVec.smod 32).toNat).getLsbD i = _
  rw [s_l n hn, BitVec.getLsbD_sshiftRight, BitVec.msb_eq_getLsbD_last]
  simp [hi]
theorem sw_bt1 : ∀ i, i < 32 → bt 1 i = decide (i = 0) := by decide +kernel
theorem sw_and1 (x : Int32) : x &&& 1 = if bt x 0 = true then 1 else 0 := by
  apply b_ext
  intro i hi
  rw [b_and, sw_bt1 i hi]
  rcases Nat.eq_zero_or_pos i with z | z
  · subst z
    cases bt x 0 <;> decide
  · rw [decide_eq_false (show ¬ i = 0 by omega), Bool.and_false]
    cases bt x 0
    · exact (b_0 i).symm
    · show false = bt 1 i
      rw [sw_bt1 i hi, decide_eq_false (show ¬ i = 0 by omega)]
theorem sw_a0 (x : Int32) : x &&& 1 = 0 ↔ bt x 0 = false := by
  rw [sw_and1]
  cases bt x 0 <;> decide
theorem sw_shr0 (x : Int32) (n : Nat) (hn : n < 32) : bt (x >>> (nI n &&& 31)) 0 = bt x n := by
  rw [b_sshr n hn x (by decide), if_pos (show n + 0 < 32 by omega), Nat.add_zero]
theorem sw_t0 (x : Int32) (n : Nat) (hn : n < 32) : (x >>> (nI n &&& 31)) &&& 1 = 0 ↔ bt x n = false := by
  rw [sw_a0, sw_shr0 x n hn]
theorem sw_t1 (x : Int32) (n : Nat) (hn : n < 32) : (x >>> (nI n &&& 31)) &&& 1 = 1 ↔ bt x n = true := by
  rw [sw_and1, sw_shr0 x n hn]
  cases bt x n <;> decide
theorem sw_one (n : Nat) (hn : n < 32) {i : Nat} (hi : i < 32) : bt ((1 : Int32) <<< (nI n &&& 31)) i = decide (i = n) := by
  rw [b_shl n hn 1 hi, sw_bt1 (i - n) (by omega), Bool.eq_iff_iff]
  simp only [Bool.and_eq_true, decide_eq_true_eq]
  omega
theorem sw_set (x : Int32) (n : Nat) (hn : n < 32) {i : Nat} (hi : i < 32) : bt (x ||| ((1 : Int32) <<< (nI n &&& 31))) i = (bt x i || decide (i = n)) := by
  rw [b_or, sw_one n hn hi]
/-! a long -/
def sl_b (x : Int64) (i : Nat) : Bool := x.toBitVec.getLsbD i
theorem sl_ext {x y : Int64} (h : ∀ i, i < 64 → sl_b x i = sl_b y i) : x = y := Int64.toBitVec_inj.mp (BitVec.eq_of_getLsbD_eq (fun i hi => h i hi))
theorem sl_0 (i : Nat) : sl_b 0 i = false := BitVec.getLsbD_zero
theorem sl_or (x y : Int64) (i : Nat) : sl_b (x ||| y) i = (sl_b x i || sl_b y i) := by unfold sl_b; rw [Int64.toBitVec_or, BitVec.getLsbD_or]
theorem sl_and (x y : Int64) (i : Nat) : sl_b (x &&& y) i = (sl_b x i && sl_b y i) := by unfold sl_b; rw [Int64.toBitVec_and, BitVec.getLsbD_and]
theorem sl_sh : ∀ l, l < 64 → ((1 : Int64) <<< ((nI l).toInt64 &&& 63)).toBitVec = BitVec.twoPow 64 l := by decide +kernel
theorem sl_one (n : Nat) (hn : n < 64) {i : Nat} (hi : i < 64) : sl_b ((1 : Int64) <<< ((nI n).toInt64 &&& 63)) i = decide (i = n) := by
  unfold sl_b
  rw [sl_sh n hn, BitVec.getLsbD_twoPow, Bool.eq_iff_iff]
  simp only [Bool.and_eq_true, decide_eq_true_eq]
  omega
theorem sl_set (x : Int64) (n : Nat) (hn : n < 64) {i : Nat} (hi : i < 64) : sl_b (x ||| ((1 : Int64) <<< ((nI n).toInt64 &&& 63))) i = (sl_b x i || decide (i = n)) := by
  rw [sl_or, sl_one n hn hi]
theorem sl_sl : ∀ n, n < 64 → (((nI n).toInt64 &&& 63).toBitVec.smod 64).toNat = n := by decide +kernel
theorem sl_shr0 (x : Int64) (n : Nat) (hn : n < 64) : sl_b (x >>> ((nI n).toInt64 &&& 63)) 0 = sl_b x n := by
  unfold sl_b
  rw [Int64.toBitVec_shiftRight]
  show (x.toBitVec.sshiftRight (((nI n).toInt64 &&& 63).toBitVec.smod 64).toNat).getLsbD 0 = _
  rw [sl_sl n hn, BitVec.getLsbD_sshiftRight]
  simp [hn]
theorem sl_bt1 : ∀ i, i < 64 → sl_b 1 i = decide (i = 0) := by decide +kernel
theorem sl_and1 (x : Int64) : x &&& 1 = if sl_b x 0 = true then 1 else 0 := by
  apply sl_ext
  intro i hi
  rw [sl_and, sl_bt1 i hi]
  rcases Nat.eq_zero_or_pos i with z | z
  · subst z
    cases sl_b x 0 <;> decide
  · rw [decide_eq_false (show ¬ i = 0 by omega), Bool.and_false]
    cases sl_b x 0
    · exact (sl_0 i).symm
    · show false = sl_b 1 i
      rw [sl_bt1 i hi, decide_eq_false (show ¬ i = 0 by omega)]
theorem sl_t0 (x : Int64) (n : Nat) (hn : n < 64) : (x >>> ((nI n).toInt64 &&& 63)) &&& 1 = 0 ↔ sl_b x n = false := by
  rw [sl_and1, sl_shr0 x n hn]
  cases sl_b x n <;> decide
theorem sl_z (x : Int64) : x = 0 ↔ ∀ i, i < 64 → sl_b x i = false := by
  constructor
  · intro h i _
    rw [h]
    exact sl_0 i
  · intro h
    exact sl_ext (fun i hi => (h i hi).trans (sl_0 i).symm)
/-! a few numbers (the kit's rows to paste) -/
theorem pk_us {f : Nat → Int32} {k : Nat} {x : Int32} : upd f k x k = x := if_pos rfl
theorem pk_un {f : Nat → Int32} {k j : Nat} {x : Int32} (h : j ≠ k) : upd f k x j = f j := if_neg h
theorem pk_sub {a b : Nat} (h : b ≤ a) : nI a - nI b = nI (a - b) := by
  obtain ⟨c, rfl⟩ : ∃ c, a = c + b := ⟨a - b, by omega⟩
  rw [← nI_add, Int32.add_sub_cancel, Nat.add_sub_cancel]
theorem pk_m1 (n : Nat) : nI (n + 1) + (-1) = nI n := by
  rw [← nI_1, Int32.add_assoc, show (1 : Int32) + (-1) = 0 from rfl, Int32.add_zero]
theorem pk_mul (a b : Nat) : nI a * nI b = nI (a * b) := (Int32.ofNat_mul a b).symm
end
