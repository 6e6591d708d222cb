section Fl2
variable {h : xH}
theorem i_eq {x y : Int32} (e : x.toBitVec.toNat = y.toBitVec.toNat) : x = y := Int32.toBitVec_inj.mp (BitVec.eq_of_toNat_eq e)
theorem nI_bv {n : Nat} (hn : n < 4294967296) : (nI n).toBitVec.toNat = n := by
  show n % 2 ^ 32 = n
  exact Nat.mod_eq_of_lt hn
theorem i_nI (x : Int32) : x = nI x.toUInt32.toNat := i_eq (by rw [nI_bv x.toUInt32.toNat_lt]; rfl)
theorem nI_u {n : Nat} (hn : n < 4294967296) : (nI n).toUInt32.toNat = n := nI_bv hn
theorem u_i (u : UInt32) : u.toInt32.toUInt32 = u := by rfl
theorem ui_n (u : UInt32) : u.toInt32 = nI u.toNat := i_eq (by rw [nI_bv u.toNat_lt]; rfl)
theorem or_low {a b : Nat} (hb : b < 8388608) : a * 8388608 ||| b = a * 8388608 + b := by
  have := Nat.shiftLeft_add_eq_or_of_lt (i := 23) (b := b) hb a
  rw [Nat.shiftLeft_eq] at this
  exact this.symm
theorem nI_or {a b : Nat} (ha : a < 4294967296) (hb : b < 4294967296) : nI a ||| nI b = nI (a ||| b) := by
  refine i_eq ?_
  rw [Int32.toBitVec_or, BitVec.toNat_or, nI_bv ha, nI_bv hb, nI_bv (Nat.or_lt_two_pow (n := 32) ha hb)]
theorem and_e {n : Nat} (hn : n < 4294967296) : n &&& 2139095040 = n / 8388608 % 256 * 8388608 := by
  have e : (2139095040 : Nat) = 255 <<< 23 := by decide
  have e2 : n / 8388608 % 256 * 8388608 = (n >>> 23 % 2 ^ 8) <<< 23 := by rw [Nat.shiftLeft_eq, Nat.shiftRight_eq_div_pow]
  rw [e, e2]
  refine Nat.eq_of_testBit_eq (fun i => ?_)
  rw [Nat.testBit_and, Nat.testBit_shiftLeft, Nat.testBit_shiftLeft, Nat.testBit_mod_two_pow, Nat.testBit_shiftRight, show (255 : Nat) = 2 ^ 8 - 1 by decide, Nat.testBit_two_pow_sub_one]
  by_cases c : 23 ≤ i
  · rw [show 23 + (i - 23) = i by omega]
    by_cases d : i - 23 < 8
    · simp [c, d]
    · simp [d]
  · simp [c]
theorem x_e (x : Int32) : x &&& (2139095040 : Int32) = nI (x.toUInt32.toNat / 8388608 % 256 * 8388608) := by
  refine i_eq ?_
  rw [Int32.toBitVec_and, BitVec.toNat_and, nI_bv (by omega)]
  exact and_e x.toUInt32.toNat_lt
theorem x_t (x : Int32) : x &&& (8388607 : Int32) = nI (x.toUInt32.toNat % 8388608) := pk_and x 23 rfl
theorem x_m (x : Int32) : x &&& (2147483647 : Int32) = nI (x.toUInt32.toNat % 2147483648) := pk_and x 31 rfl
theorem e_255 (x : Int32) : x &&& (2139095040 : Int32) = (2139095040 : Int32) ↔ x.toUInt32.toNat / 8388608 % 256 = 255 := by
  rw [x_e]
  have := nI_inj (a := x.toUInt32.toNat / 8388608 % 256 * 8388608) (b := 2139095040) (by omega) (by omega)
  exact this.trans (by omega)
theorem e_0 (x : Int32) : x &&& (2139095040 : Int32) = 0 ↔ x.toUInt32.toNat / 8388608 % 256 = 0 := by
  rw [x_e]
  have := nI_inj (a := x.toUInt32.toNat / 8388608 % 256 * 8388608) (b := 0) (by omega) (by omega)
  exact this.trans (by omega)
/-- a lap that is a number -/
def isN (x : Int32) : Prop := x.toUInt32.toNat / 8388608 % 256 ≠ 255
theorem isN_fin (x : Int32) : isN x ↔ FP.Core.FFin x.toUInt32 := by
  rw [FP.Core.fin_bits32]
  unfold isN
  have := x.toUInt32.toNat_lt
  omega
theorem w_isNum {x : Int32} {Q : Int32 → xH → Prop} (no : ¬ isN x → Q 0 h) (yes : isN x → Q 1 h) : p_Fl_isNumber x h Q := by
  unfold p_Fl_isNumber
  rw [e_255]
  exact ⟨fun c => no (fun z => z c), fun c => yes c⟩
/-- mantissa, power, sign -/
def mN (x : Int32) : Nat := if x.toUInt32.toNat / 8388608 % 256 = 0 then x.toUInt32.toNat % 8388608 else 8388608 + x.toUInt32.toNat % 8388608
def pN (x : Int32) : Int := max ((x.toUInt32.toNat / 8388608 % 256 : Nat) : Int) 1 - 150
theorem mN_lt (x : Int32) : mN x < 16777216 := by unfold mN; split <;> omega
theorem pN_b (x : Int32) (n : isN x) : -149 ≤ pN x ∧ pN x ≤ 104 := by unfold pN; unfold isN at n; omega
theorem mp_f (x : Int32) : pN x = -149 ∨ 8388608 ≤ mN x := by
  unfold mN pN
  by_cases c : x.toUInt32.toNat / 8388608 % 256 = 0
  · rw [c]; left; decide
  · rw [if_neg c]; right; omega
theorem v_x (x : Int32) (n : isN x) : FP.Core.val32 x.toUInt32 = .fin (decide (2147483648 ≤ x.toUInt32.toNat)) (mN x) (pN x) := by
  unfold isN at n
  show FP.Core.decode FP.Core.b32 x.toUInt32.toNat = _
  rw [v_bits _ x.toUInt32.toNat_lt, if_neg n]
  unfold mN pN
  by_cases c : x.toUInt32.toNat / 8388608 % 256 = 0
  · rw [if_pos c, if_pos c, c]; rfl
  · rw [if_neg c, if_neg c]
    congr 1
    omega
theorem w_mant {x : Int32} {Q : Int32 → xH → Prop} (q : Q (nI (mN x)) h) : p_Fl_mantissa x h Q := by
  unfold p_Fl_mantissa
  intro v1 e1
  subst e1
  rw [e_0, x_t]
  unfold mN at q
  refine ⟨fun c => ?_, fun c => ?_⟩
  · rw [if_neg c] at q
    rw [show (8388608 : Int32) = nI 8388608 from rfl, nI_or (by omega) (by omega), Nat.or_comm, show (8388608 : Nat) ||| x.toUInt32.toNat % 8388608 = 1 * 8388608 ||| x.toUInt32.toNat % 8388608 by rw [Nat.one_mul], or_low (by omega), Nat.one_mul]
    exact q
  · rw [if_pos c] at q; exact q
theorem pow_dec : ∀ a : Fin 256, ((if nI a.val < (1 : Int32) then (1 : Int32) else nI a.val) - (1 : Int32)) + (-149 : Int32) = Int32.ofInt (max (a.val : Int) 1 - 150) := by decide +kernel
theorem w_pow {x : Int32} {Q : Int32 → xH → Prop} (q : Q (Int32.ofInt (pN x)) h) : p_Fl_power x h Q := by
  unfold p_Fl_power
  intro v1 e1
  have ea : x.toUInt32.toNat / 8388608 % 256 < 256 := by omega
  have ev : v1 = nI (x.toUInt32.toNat / 8388608 % 256) := by
    rw [e1, x_e, pk_shrN (by omega) _ 23 rfl, show (2 : Nat) ^ 23 = 8388608 by decide]
    congr 1
    omega
  rw [ev]
  have := pow_dec ⟨x.toUInt32.toNat / 8388608 % 256, ea⟩
  unfold pN at q
  rw [← this] at q
  unfold p_Jm_max
  refine ⟨fun c => ?_, fun c => ?_⟩
  · first
      | (rw [if_pos c] at q; exact q)
      | (rw [if_neg (by rw [ti_lt, ti_le] at *; omega)] at q; exact q)
  · first
      | (rw [if_neg c] at q; exact q)
      | (rw [if_pos (by rw [ti_lt, ti_le] at *; omega)] at q; exact q)
/-- sign of an int -/
theorem i_neg (x : Int32) : 0 ≤ x ↔ x.toUInt32.toNat < 2147483648 := by
  rw [ti_le]
  show (0 : Int) ≤ x.toBitVec.toInt ↔ _
  rw [BitVec.toInt_eq_toNat_cond]
  have e : x.toBitVec.toNat = x.toUInt32.toNat := rfl
  have := x.toUInt32.toNat_lt
  rw [e]
  split <;> omega
end Fl2
