/-! longs by their bits: nibbles, 8 by 8 matrices -/
def bL (x : Int64) (i : Nat) : Bool := x.toBitVec.getLsbD i
theorem bL_ext {x y : Int64} (h : ∀ i, i < 64 → bL x i = bL y i) : x = y := Int64.toBitVec_inj.mp (BitVec.eq_of_getLsbD_eq (fun i hi => h i hi))
theorem bL_or (x y : Int64) (i : Nat) : bL (x ||| y) i = (bL x i || bL y i) := by unfold bL; rw [Int64.toBitVec_or, BitVec.getLsbD_or]
theorem bL_and (x y : Int64) (i : Nat) : bL (x &&& y) i = (bL x i && bL y i) := by unfold bL; rw [Int64.toBitVec_and, BitVec.getLsbD_and]
theorem bL_xor (x y : Int64) (i : Nat) : bL (x ^^^ y) i = (bL x i ^^ bL y i) := by unfold bL; rw [Int64.toBitVec_xor, BitVec.getLsbD_xor]
theorem bL_0 (i : Nat) : bL 0 i = false := BitVec.getLsbD_zero
theorem bL_m1 : ∀ i, i < 64 → bL (-1) i = true := by decide +kernel
theorem bL_1 : ∀ i, i < 64 → bL 1 i = decide (i = 0) := by decide +kernel
theorem bL_15 : ∀ i, i < 64 → bL 15 i = decide (i < 4) := by decide +kernel
theorem bL_255 : ∀ i, i < 64 → bL 255 i = decide (i < 8) := by decide +kernel
theorem bL_min : ∀ i, i < 64 → bL (-9223372036854775808) i = decide (i = 63) := by decide +kernel
theorem bL_one : ∀ i, i < 64 → bL 72340172838076673 i = decide (i % 8 = 0) := by decide +kernel
theorem bL_eye : ∀ i, i < 8 → ∀ j, j < 8 → bL (-9205322385119247871) (8 * i + j) = decide (i = j) := by decide +kernel
theorem bL_lN {v : Nat} {i : Nat} (hi : i < 64) : bL (lN v) i = v.testBit i := by
  show (BitVec.ofNat 64 v).getLsbD i = v.testBit i
  rw [BitVec.getLsbD_ofNat, decide_eq_true hi, Bool.true_and]
theorem sL_l : ∀ n, n < 64 → (((nI n).toInt64 &&& 63).toBitVec.smod 64).toNat = n := by decide +kernel
theorem sL_u : ∀ n, n < 64 → (((nI n).toInt64.toUInt64 &&& Int64.toUInt64 63).toBitVec % 64).toNat = n := by decide +kernel
theorem bL_shl (n : Nat) (hn : n < 64) (x : Int64) {i : Nat} (hi : i < 64) : bL (x <<< ((nI n).toInt64 &&& 63)) i = (decide (n ≤ i) && bL x (i - n)) := by
  unfold bL
  rw [Int64.toBitVec_shiftLeft]
  show (x.toBitVec <<< (((nI n).toInt64 &&& 63).toBitVec.smod 64).toNat).getLsbD i = _
  rw [sL_l n hn, BitVec.getLsbD_shiftLeft]
  rcases Nat.lt_or_ge i n with h | h
  · simp [h, Nat.not_le.mpr h]
  · simp [hi, h, Nat.not_lt.mpr h]
theorem bL_ushr (n : Nat) (hn : n < 64) (x : Int64) (i : Nat) : bL ((x.toUInt64 >>> ((nI n).toInt64.toUInt64 &&& Int64.toUInt64 63)).toInt64) i = bL x (n + i) := by
  show (x.toUInt64 >>> ((nI n).toInt64.toUInt64 &&& Int64.toUInt64 63)).toBitVec.getLsbD i = x.toUInt64.toBitVec.getLsbD (n + i)
  rw [UInt64.toBitVec_shiftRight]
  show (x.toUInt64.toBitVec >>> (((nI n).toInt64.toUInt64 &&& Int64.toUInt64 63).toBitVec % 64).toNat).getLsbD i = _
  rw [sL_u n hn, BitVec.getLsbD_ushiftRight]
theorem nx_4 (c : Nat) : 4 * nI c = nI (4 * c) := pk_mul 4 c
theorem nx_8 (c : Nat) : 8 * nI c = nI (8 * c) := pk_mul 8 c
theorem nx_91 (c : Nat) : 9 * nI c + 1 = nI (9 * c + 1) := by
  rw [show 9 * nI c = nI (9 * c) from pk_mul 9 c, nI_1]
/-- nibble c of x is v -/
def nb_is (x : Int64) (c v : Nat) : Prop := ∀ i, i < 4 → bL x (4 * c + i) = v.testBit i
theorem nb_hi {v i : Nat} (hv : v < 16) (hi : 4 ≤ i) : v.testBit i = false :=
  Nat.testBit_lt_two_pow (Nat.lt_of_lt_of_le hv (Nat.pow_le_pow_right (n := 2) (by omega) hi))
theorem nb_get {x : Int64} {c v : Nat} (h : nb_is x c v) (hc : c < 16) (hv : v < 16) : (((x.toUInt64 >>> ((4 * nI c).toInt64.toUInt64 &&& Int64.toUInt64 63)).toInt64) &&& 15) = lN v := by
  apply bL_ext
  intro i hi
  rw [nx_4, bL_and, bL_ushr _ (by omega), bL_15 i hi, bL_lN hi]
  by_cases e : i < 4
  · rw [decide_eq_true e, Bool.and_true]; exact h i e
  · rw [decide_eq_false e, Bool.and_false, nb_hi hv (by omega)]
theorem nb_0 (c : Nat) : nb_is 0 c 0 := fun i _ => by rw [bL_0, Nat.zero_testBit]
theorem nb_put {x : Int64} {c v : Nat} (hc : c < 16) (hv : v < 16) :
    nb_is ((x &&& (((15 : Int64) <<< ((4 * nI c).toInt64 &&& 63)) ^^^ (-1))) ||| ((nI v).toInt64 <<< ((4 * nI c).toInt64 &&& 63))) c v := by
  intro i hi
  rw [nx_4, bL_or, bL_and, bL_xor, bL_m1 _ (by omega), bL_shl _ (by omega) _ (by omega), bL_shl _ (by omega) _ (by omega), Nat.add_sub_cancel_left, bL_15 i (by omega), nI_l (by omega), bL_lN (by omega), decide_eq_true (show 4 * c ≤ 4 * c + i by omega), decide_eq_true hi]
  simp
theorem nb_old {x : Int64} {c d v u : Nat} (hc : c < 16) (hd : d < 16) (hv : v < 16) (hn : d ≠ c) (h : nb_is x d u) :
    nb_is ((x &&& (((15 : Int64) <<< ((4 * nI c).toInt64 &&& 63)) ^^^ (-1))) ||| ((nI v).toInt64 <<< ((4 * nI c).toInt64 &&& 63))) d u := by
  intro i hi
  rw [nx_4, bL_or, bL_and, bL_xor, bL_m1 _ (by omega), bL_shl _ (by omega) _ (by omega), bL_shl _ (by omega) _ (by omega), nI_l (by omega), h i hi]
  by_cases e : 4 * c ≤ 4 * d + i
  · rw [decide_eq_true e, bL_15 _ (by omega), decide_eq_false (show ¬ 4 * d + i - 4 * c < 4 by omega), bL_lN (by omega), nb_hi hv (show 4 ≤ 4 * d + i - 4 * c by omega)]
    simp
  · rw [decide_eq_false e]
    simp
/-- the word: nibbles below n are the tokens, the others 0 -/
def nb_w (x : Int64) (tok : Nat → Int32) (n : Nat) : Prop := (∀ d, d < n → ∃ v, v < 8 ∧ tok d = nI v ∧ nb_is x d v) ∧ ∀ d, n ≤ d → d < 16 → nb_is x d 0
theorem nb_w0 (tok : Nat → Int32) : nb_w 0 tok 0 := ⟨fun d h => absurd h (by omega), fun d _ _ => nb_0 d⟩
theorem nb_add {x : Int64} {tok : Nat → Int32} {n a : Nat} (h : nb_w x tok n) (hn : n < 16) (ha : a < 8) :
    nb_w (x ||| ((nI a).toInt64 <<< ((4 * nI n).toInt64 &&& 63))) (upd tok n (nI a)) (n + 1) := by
  have bit : ∀ d i, d < 16 → i < 4 → bL (x ||| ((nI a).toInt64 <<< ((4 * nI n).toInt64 &&& 63))) (4 * d + i) = (bL x (4 * d + i) || (decide (n ≤ d) && a.testBit (4 * (d - n) + i))) := by
    intro d i hd hi
    rw [nx_4, bL_or, bL_shl _ (by omega) _ (by omega), nI_l (by omega), bL_lN (by omega)]
    by_cases e : n ≤ d
    · rw [decide_eq_true e, decide_eq_true (show 4 * n ≤ 4 * d + i by omega), show 4 * d + i - 4 * n = 4 * (d - n) + i by omega]
    · rw [decide_eq_false e, decide_eq_false (show ¬ 4 * n ≤ 4 * d + i by omega), Bool.false_and, Bool.false_and]
  constructor
  · intro d hd
    by_cases e : d = n
    · refine ⟨a, ha, by rw [e, pk_us], fun i hi => ?_⟩
      rw [bit d i (by omega) hi, h.2 d (by omega) (by omega) i hi, Nat.zero_testBit, e, Nat.sub_self, Nat.mul_zero, Nat.zero_add, decide_eq_true (Nat.le_refl n)]
      simp
    · obtain ⟨v, hv, e1, e2⟩ := h.1 d (by omega)
      refine ⟨v, hv, by rw [pk_un e]; exact e1, fun i hi => ?_⟩
      rw [bit d i (by omega) hi, e2 i hi, decide_eq_false (show ¬ n ≤ d by omega)]
      simp
  · intro d hd h16 i hi
    rw [bit d i h16 hi, h.2 d (by omega) h16 i hi, Nat.zero_testBit, nb_hi (v := a) (by omega) (show 4 ≤ 4 * (d - n) + i by omega)]
    simp
theorem nb_lowbits : ∀ m, m < 13 → ∀ i, i < 64 → bL (((1 : Int64) <<< ((4 * nI m).toInt64 &&& 63)) - 1) i = decide (i < 4 * m) := by decide +kernel
theorem nb_cut {x : Int64} {tok : Nat → Int32} {n m : Nat} (h : nb_w x tok n) (hm : m ≤ n) (hn : n ≤ 12) : nb_w (x &&& (((1 : Int64) <<< ((4 * nI m).toInt64 &&& 63)) - 1)) tok m := by
  constructor
  · intro d hd
    obtain ⟨v, hv, e1, e2⟩ := h.1 d (by omega)
    refine ⟨v, hv, e1, fun i hi => ?_⟩
    rw [bL_and, nb_lowbits m (by omega) _ (by omega), decide_eq_true (by omega), Bool.and_true]
    exact e2 i hi
  · intro d hd h16 i hi
    rw [bL_and, nb_lowbits m (by omega) _ (by omega), decide_eq_false (by omega), Bool.and_false, Nat.zero_testBit]
theorem nb_w_tok {x : Int64} {tok tok' : Nat → Int32} {n : Nat} (h : nb_w x tok n) (e : ∀ d, d < n → tok d = tok' d) : nb_w x tok' n :=
  ⟨fun d hd => by rw [← e d hd]; exact h.1 d hd, h.2⟩
/-! matrices -/
theorem mx_rep : ∀ b, b < 256 → ∀ i, i < 8 → ∀ j, j < 8 → bL (lN b * 72340172838076673) (8 * i + j) = b.testBit j := by decide +kernel
def mx_S (b : Nat) : Nat := b % 2 + b / 2 % 2 * 256 + b / 4 % 2 * 65536 + b / 8 % 2 * 16777216 + b / 16 % 2 * 4294967296 + b / 32 % 2 * 1099511627776 + b / 64 % 2 * 281474976710656 + b / 128 % 2 * 72057594037927936
theorem mx_S_bit : ∀ b, b < 256 → ∀ p, p < 64 → bL (lN (mx_S b)) p = (decide (p % 8 = 0) && b.testBit (p / 8)) := by decide +kernel
theorem mx_fill : ∀ b, b < 256 → ∀ i, i < 8 → ∀ j, j < 8 → bL (lN (mx_S b) * 255) (8 * i + j) = b.testBit i := by decide +kernel
theorem mx_ex (g : Nat → Bool) : ∀ n, ∃ b, b < 2 ^ n ∧ ∀ i, i < n → b.testBit i = g i := by
  intro n
  induction n with
  | zero => exact ⟨0, by omega, fun i hi => absurd hi (by omega)⟩
  | succ n ih =>
    obtain ⟨b, hb, h⟩ := ih
    have p : 2 ^ (n + 1) = 2 ^ n * 2 := Nat.pow_succ 2 n
    refine ⟨b + (g n).toNat * 2 ^ n, ?_, fun i hi => ?_⟩
    · cases g n with
      | true => show b + 1 * 2 ^ n < _; omega
      | false => show b + 0 * 2 ^ n < _; omega
    · by_cases e : i = n
      · rw [e, Nat.add_comm, Nat.mul_comm, Nat.testBit_two_pow_mul_add _ hb, if_neg (by omega), Nat.sub_self]
        cases g n <;> rfl
      · rw [Nat.add_comm, Nat.mul_comm, Nat.testBit_two_pow_mul_add _ hb, if_pos (by omega)]
        exact h i (by omega)
theorem mx_A (z : Int64) {i j : Nat} (hi : i < 8) (hj : j < 8) : bL ((z &&& 72340172838076673) * 255) (8 * i + j) = bL z (8 * i) := by
  obtain ⟨b, hb, h⟩ := mx_ex (fun i => bL z (8 * i)) 8
  have e : z &&& 72340172838076673 = lN (mx_S b) := by
    apply bL_ext
    intro p hp
    rw [bL_and, bL_one p hp, mx_S_bit b hb p hp]
    by_cases e : p % 8 = 0
    · have q := h (p / 8) (by omega)
      rw [show 8 * (p / 8) = p from by omega] at q
      rw [q, decide_eq_true e, Bool.and_true, Bool.true_and]
    · rw [decide_eq_false e, Bool.and_false, Bool.false_and]
  rw [e, mx_fill b hb i hi j hj]
  exact h i hi
theorem mx_B (z : Int64) {i j : Nat} (hi : i < 8) (hj : j < 8) : bL ((z &&& 255) * 72340172838076673) (8 * i + j) = bL z j := by
  obtain ⟨b, hb, h⟩ := mx_ex (fun i => bL z i) 8
  have e : z &&& 255 = lN b := by
    apply bL_ext
    intro p hp
    rw [bL_and, bL_255 p hp, bL_lN hp]
    by_cases e : p < 8
    · rw [h p e, decide_eq_true e, Bool.and_true]
    · rw [decide_eq_false e, Bool.and_false]
      exact (Nat.testBit_lt_two_pow (Nat.lt_of_lt_of_le hb (Nat.pow_le_pow_right (n := 2) (by omega) (by omega)))).symm
  rw [e, mx_rep b hb i hi j hj]
  exact h j hj
theorem mx_bit1 (x : Int64) {j : Nat} (hj : j < 64) : (((x.toUInt64 >>> ((nI j).toInt64.toUInt64 &&& Int64.toUInt64 63)).toInt64) &&& 1) = 1 ↔ bL x j = true := by
  constructor
  · intro h
    have e := bL_and ((x.toUInt64 >>> ((nI j).toInt64.toUInt64 &&& Int64.toUInt64 63)).toInt64) 1 0
    rw [h, bL_1 0 (by omega), bL_ushr j hj, Nat.add_zero] at e
    simpa using e.symm
  · intro h
    apply bL_ext
    intro i hi
    rw [bL_and, bL_1 i hi, bL_ushr j hj]
    by_cases e : i = 0
    · rw [e, Nat.add_zero, h]; rfl
    · rw [decide_eq_false e, Bool.and_false]
