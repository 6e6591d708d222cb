section Fl1
theorem qmax32 : FP.Core.b32.qmax = 104 := by decide
/-- rounding knows the value alone -/
theorem rnd_v {s : Bool} {c c' : Nat} {e e' : Int} (N : Int) (h0 : 0 ≤ e + N) (h1 : 0 ≤ e' + N) (h : c * 2 ^ (e + N).toNat = c' * 2 ^ (e' + N).toNat) : FP.Core.round FP.Core.b32 (.fin s c e) = FP.Core.round FP.Core.b32 (.fin s c' e') := by
  refine FP.Core.roundRatio_congr (by decide) (by decide) ?_
  rw [Nat.mul_one, Nat.mul_one]
  by_cases g : e' ≤ e
  · have a : (e + N).toNat = (e - e').toNat + (e' + N).toNat := by omega
    have z : (e' - e).toNat = 0 := by omega
    rw [a, Nat.pow_add, ← Nat.mul_assoc] at h
    rw [z, Nat.pow_zero, Nat.mul_one]
    exact Nat.eq_of_mul_eq_mul_right (Nat.two_pow_pos _) h
  · have a : (e' + N).toNat = (e' - e).toNat + (e + N).toNat := by omega
    have z : (e - e').toNat = 0 := by omega
    rw [a, Nat.pow_add, ← Nat.mul_assoc] at h
    rw [z, Nat.pow_zero, Nat.mul_one]
    exact Nat.eq_of_mul_eq_mul_right (Nat.two_pow_pos _) h
/-- the float of a mantissa and a power -/
def fF (m : Nat) (k : Int) : UInt32 := FP.Core.of32 (FP.Core.round FP.Core.b32 (.fin false m k))
theorem fF_v (m : Nat) (k : Int) : FP.Core.val32 (fF m k) = FP.Core.round FP.Core.b32 (.fin false m k) := FP.Core.val32_of32 (FP.Core.round_fits FP.Core.good_b32 _)
theorem fF_val {m : Nat} {k : Int} (hm : m < 16777216) (h1 : -149 ≤ k) (h2 : k ≤ 104) : ∃ c q, FP.Core.val32 (fF m k) = .fin false c q ∧ c * 2 ^ (q + 149).toNat = m * 2 ^ (k + 149).toNat ∧ -149 ≤ q := by
  obtain ⟨c, q, e1, e2⟩ := FP.Core.round_exact FP.Core.good_b32 false (c := m) (q := k) hm (by rw [FP.Core.qmin_b32]; exact h1) (by rw [qmax32]; exact h2)
  have v := (fF_v m k).trans e1
  have f := FP.Core.val32_fits (fF m k)
  rw [v] at f
  have q1 : FP.Core.b32.qmin ≤ q := f.2.1
  unfold FP.Core.inUnits at e2
  rw [FP.Core.qmin_b32] at e2 q1
  exact ⟨c, q, v, by simpa using e2, q1⟩
theorem fF_z {m : Nat} {k : Int} (hm : m < 16777216) (h1 : -149 ≤ k) (h2 : k ≤ 104) : FP.Core.zval FP.Core.b32 (FP.Core.val32 (fF m k)) = ((m * 2 ^ (k + 149).toNat : Nat) : Int) := by
  obtain ⟨c, q, e1, e2, e3⟩ := fF_val hm h1 h2
  rw [e1]
  unfold FP.Core.zval FP.Core.zmag FP.Core.sgn FP.Core.signed FP.Core.inUnits
  rw [FP.Core.qmin_b32, ← e2]
  simp
theorem fF_nn {m : Nat} {k : Int} : FP.Core.val32 (fF m k) ≠ .nan := by
  rw [fF_v]
  exact FP.Core.roundRatio_ne_nan _ _ _ _ _
theorem fF_fin {m : Nat} {k : Int} (hm : m < 16777216) (h1 : -149 ≤ k) (h2 : k ≤ 104) : FP.Core.FFin (fF m k) := by
  obtain ⟨c, q, e1, -⟩ := fF_val hm h1 h2
  exact ⟨_, _, _, e1⟩
theorem fF_self {u : UInt32} {c : Nat} {q : Int} (e : FP.Core.val32 u = .fin false c q) : fF c q = u := by
  unfold fF
  rw [← e, FP.Core.round_of_fits FP.Core.good_b32 (FP.Core.val32_fits u)]
  exact FP.Core.of32_val32 (by rw [e]; exact FP.Core.Datum.noConfusion)
theorem v_two : FP.Core.val32 1073741824 = .fin false 8388608 (-22) := by decide +kernel
theorem v_half : FP.Core.val32 1056964608 = .fin false 8388608 (-24) := by decide +kernel
theorem fF_2 {m : Nat} {k : Int} (hm : m < 16777216) (h1 : -149 ≤ k) (h2 : k ≤ 104) : FP.fmul (fF m k) 1073741824 = fF m (k + 1) := by
  obtain ⟨c, q, e1, e2, e3⟩ := fF_val hm h1 h2
  refine FP.Core.val32_inj ?_ ?_
  · rw [FP.Core.val32_fmul, e1, v_two]; exact FP.Core.roundRatio_ne_nan _ _ _ _ _
  · rw [FP.Core.val32_fmul, e1, v_two, fF_v]
    refine rnd_v 172 (by omega) (by omega) ?_
    have a : (q + -22 + 172).toNat = (q + 149).toNat + 1 := by omega
    have b : (k + 1 + 172).toNat = (k + 149).toNat + 24 := by omega
    rw [a, b, Nat.pow_add, Nat.pow_add]
    have this : c * 2 ^ (q + 149).toNat * 16777216 = m * 2 ^ (k + 149).toNat * 16777216 := by rw [e2]
    rw [Nat.mul_assoc m, Nat.mul_assoc c] at this
    have e8 : (2 : Nat) ^ 24 = 16777216 := by decide
    rw [e8, Nat.mul_assoc, ← this]
    rw [show 8388608 * (2 ^ (q + 149).toNat * 2 ^ 1) = 2 ^ (q + 149).toNat * 16777216 by omega]
theorem fF_h {m : Nat} {k : Int} (hm : m < 16777216) (h1 : -149 ≤ k) (h2 : k ≤ 104) : FP.fmul (fF m k) 1056964608 = fF m (k - 1) := by
  obtain ⟨c, q, e1, e2, e3⟩ := fF_val hm h1 h2
  refine FP.Core.val32_inj ?_ ?_
  · rw [FP.Core.val32_fmul, e1, v_half]; exact FP.Core.roundRatio_ne_nan _ _ _ _ _
  · rw [FP.Core.val32_fmul, e1, v_half, fF_v]
    refine rnd_v 174 (by omega) (by omega) ?_
    have a : (q + -24 + 174).toNat = (q + 149).toNat + 1 := by omega
    have b : (k - 1 + 174).toNat = (k + 149).toNat + 24 := by omega
    rw [a, b, Nat.pow_add, Nat.pow_add]
    have this : c * 2 ^ (q + 149).toNat * 16777216 = m * 2 ^ (k + 149).toNat * 16777216 := by rw [e2]
    rw [Nat.mul_assoc m, Nat.mul_assoc c] at this
    have e8 : (2 : Nat) ^ 24 = 16777216 := by decide
    rw [e8, Nat.mul_assoc, ← this]
    rw [show 8388608 * (2 ^ (q + 149).toNat * 2 ^ 1) = 2 ^ (q + 149).toNat * 16777216 by omega]
/-- twice the mantissa, one less in the power -/
theorem fF_sh {m : Nat} {k : Int} (h1 : -149 < k) : fF (m * 2) (k - 1) = fF m k := by
  unfold fF
  rw [rnd_v (c := m * 2) (e := k - 1) (c' := m) (e' := k) 149 (by omega) (by omega) ?_]
  have b : (k + 149).toNat = (k - 1 + 149).toNat + 1 := by omega
  rw [b, Nat.pow_succ]
  rw [Nat.mul_assoc, Nat.mul_comm 2]
/-- bits of a mantissa that is full, and of one at the least power -/
theorem fF_full {m : Nat} {k : Int} (hm : m < 16777216) (hf : 8388608 ≤ m) (h1 : -149 ≤ k) (h2 : k ≤ 104) : (fF m k).toNat = ((k + 149).toNat + 1) * 8388608 + (m - 8388608) := by
  have ft : FP.Core.fits FP.Core.b32 (.fin false m k) := ⟨hm, by rw [FP.Core.qmin_b32]; exact h1, by rw [qmax32]; exact h2, Or.inr hf⟩
  unfold fF
  rw [FP.Core.round_of_fits FP.Core.good_b32 ft, FP.Core.toNat_of32 ft]
  have t : FP.Core.b32.tails = 8388608 := by decide
  show (if m < FP.Core.b32.tails then FP.Core.assemble FP.Core.b32 false 0 m else FP.Core.assemble FP.Core.b32 false ((k - FP.Core.b32.qmin).toNat + 1) (m - FP.Core.b32.tails)) = _
  rw [t, if_neg (by omega), FP.Core.qmin_b32]
  unfold FP.Core.assemble
  rw [t, show k - -149 = k + 149 by omega]
  simp
theorem fF_low {m : Nat} (hm : m < 8388608) : (fF m (-149)).toNat = m := by
  have ft : FP.Core.fits FP.Core.b32 (.fin false m (-149)) := ⟨Nat.lt_trans hm (by decide), by rw [FP.Core.qmin_b32]; exact Int.le_refl _, by rw [qmax32]; decide, Or.inl FP.Core.qmin_b32.symm⟩
  unfold fF
  rw [FP.Core.round_of_fits FP.Core.good_b32 ft, FP.Core.toNat_of32 ft]
  have t : FP.Core.b32.tails = 8388608 := by decide
  show (if m < FP.Core.b32.tails then FP.Core.assemble FP.Core.b32 false 0 m else FP.Core.assemble FP.Core.b32 false ((-149 - FP.Core.b32.qmin).toNat + 1) (m - FP.Core.b32.tails)) = _
  rw [t, if_pos hm]
  unfold FP.Core.assemble
  simp
/-- a datum by its bits -/
theorem v_bits (n : Nat) (h : n < 4294967296) : FP.Core.decode FP.Core.b32 n = if n / 8388608 % 256 = 255 then (if n % 8388608 = 0 then .inf (decide (2147483648 ≤ n)) else .nan) else if n / 8388608 % 256 = 0 then .fin (decide (2147483648 ≤ n)) (n % 8388608) (-149) else .fin (decide (2147483648 ≤ n)) (8388608 + n % 8388608) (-149 + (((n / 8388608 % 256 : Nat) : Int) - 1)) := by
  have eE : FP.Core.fieldE FP.Core.b32 n = n / 8388608 % 256 := rfl
  have eT : FP.Core.fieldT FP.Core.b32 n = n % 8388608 := rfl
  have eS : FP.Core.fieldS FP.Core.b32 n = decide (2147483648 ≤ n) := by
    show (n / 8388608 / 256 % 2 == 1) = _
    by_cases c : 2147483648 ≤ n
    · rw [decide_eq_true c]
      have : n / 8388608 / 256 % 2 = 1 := by omega
      rw [this]; rfl
    · rw [decide_eq_false c]
      have : n / 8388608 / 256 % 2 = 0 := by omega
      rw [this]; rfl
  have e5 : FP.Core.b32.exps - 1 = 255 := rfl
  have t : FP.Core.b32.tails = 8388608 := by decide
  unfold FP.Core.decode
  rw [eE, eT, eS, e5, t, FP.Core.qmin_b32]
/-- no number from adding to one -/
theorem n32 {u : UInt32} (h : FP.Core.val32 u ≠ .nan) : u &&& 0x7fffffff ≤ 0x7f800000 := by
  rw [UInt32.le_iff_toNat_le, FP.Core.mask_toNat32]
  exact (FP.Core.ne_nan32 u).mp h
/-- a sum: a number or endless, and not -0.0 -/
def okS (u : UInt32) : Prop := FP.Core.val32 u ≠ .nan ∧ u ≠ 2147483648
theorem vz : FP.Core.val32 2147483648 = .fin true 0 (-149) := by decide +kernel
theorem sgnd_neg {x y : Nat} (h : FP.Core.signed true x + FP.Core.signed true y = 0) : x = 0 ∧ y = 0 := by
  unfold FP.Core.signed at h
  simp at h
  omega
theorem okS_add {a b : UInt32} (ha : okS a) (hb : FP.Core.FFin b) : okS (FP.fadd a b) := by
  have nn : FP.Core.val32 (FP.fadd a b) ≠ .nan := (FP.Core.notNaN_iff32 _).mp (FP.Core.fadd_out ((FP.Core.notNaN_iff32 _).mpr ha.1) hb)
  refine ⟨nn, fun e => ?_⟩
  have v : FP.Core.val32 (FP.fadd a b) = .fin true 0 (-149) := by rw [e]; exact vz
  rw [FP.Core.val32_fadd] at v
  obtain ⟨t, d, r, eb⟩ := hb
  have fa := FP.Core.val32_fits a
  have fb := FP.Core.val32_fits b
  rw [eb] at v fb
  cases ea : FP.Core.val32 a with
  | nan => exact ha.1 ea
  | inf s =>
    rw [ea] at v
    exact FP.Core.Datum.noConfusion v
  | fin s c q =>
    rw [ea] at v fa
    replace v : FP.Core.roundRatio FP.Core.b32 (FP.Core.sumSign s t (FP.Core.sumUnits s c q t d r (min q r))) (FP.Core.sumUnits s c q t d r (min q r)).natAbs 1 (min q r) = .fin true 0 (-149) := v
    have q1 : -149 ≤ q := by have := fa.2.1; rw [FP.Core.qmin_b32] at this; exact this
    have r1 : -149 ≤ r := by have := fb.2.1; rw [FP.Core.qmin_b32] at this; exact this
    have sg := congrArg FP.Core.sgn v
    rw [FP.Core.sgn_roundRatio] at sg
    replace sg : FP.Core.sumSign s t (FP.Core.sumUnits s c q t d r (min q r)) = true := sg
    by_cases z : FP.Core.sumUnits s c q t d r (min q r) = 0
    · unfold FP.Core.sumSign at sg
      rw [if_pos z] at sg
      have st : s = true ∧ t = true := by simpa using sg
      rw [st.1, st.2] at z
      have c0 := (sgnd_neg z).1
      unfold FP.Core.inUnits at c0
      have c00 : c = 0 := by
        rcases Nat.mul_eq_zero.mp c0 with h | h
        · exact h
        · exact absurd h (Nat.ne_of_gt (Nat.two_pow_pos _))
      rw [c00] at fa ea
      have q0 := FP.Core.fits_zero_q FP.Core.good_b32 fa
      rw [FP.Core.qmin_b32] at q0
      refine ha.2 (FP.Core.val32_inj ha.1 ?_)
      rw [ea, vz, st.1, q0]
    · have ge := FP.Core.zmag_roundRatio_ge (f := FP.Core.b32) FP.Core.good_b32 (s := FP.Core.sumSign s t (FP.Core.sumUnits s c q t d r (min q r))) (A := (FP.Core.sumUnits s c q t d r (min q r)).natAbs) (B := 1) (e := min q r) (e0 := -149) (V := .fin true 1 (-149)) (by decide) ⟨by decide, by rw [FP.Core.qmin_b32]; exact Int.le_refl _, by rw [qmax32]; decide, Or.inl FP.Core.qmin_b32.symm⟩ (by rw [FP.Core.qmin_b32]; exact Int.le_refl _) (by omega) (by
        unfold FP.Core.zmag FP.Core.inUnits
        rw [FP.Core.qmin_b32]
        have := Nat.two_pow_pos (min q r - -149).toNat
        have n0 : 1 ≤ (FP.Core.sumUnits s c q t d r (min q r)).natAbs := by omega
        have := Nat.mul_le_mul n0 this
        simpa using this)
      rw [v] at ge
      unfold FP.Core.zmag FP.Core.inUnits at ge
      simp at ge
/-- the bits of a nonnegative one are not signed -/
theorem pos_lt {u : UInt32} (n : FP.Core.val32 u ≠ .nan) (s : FP.Core.sgn (FP.Core.val32 u) = false) : u.toNat < 2147483648 := by
  rw [FP.Core.sgn_bits32 n] at s
  have := of_decide_eq_false s
  omega
theorem lt_pos {u : UInt32} (n : FP.Core.val32 u ≠ .nan) (h : u.toNat < 2147483648) : FP.Core.sgn (FP.Core.val32 u) = false := by
  rw [FP.Core.sgn_bits32 n]
  exact decide_eq_false (by omega)
theorem ge_neg {u : UInt32} (n : FP.Core.val32 u ≠ .nan) (h : 2147483648 ≤ u.toNat) : FP.Core.sgn (FP.Core.val32 u) = true := by
  rw [FP.Core.sgn_bits32 n]
  exact decide_eq_true (by omega)
theorem cmp0 {u : UInt32} (o : okS u) : FP.fcmp u 0 = some .lt ↔ 2147483648 ≤ u.toNat := by
  have n0 : FP.Core.val32 0 ≠ .nan := by decide +kernel
  rw [FP.Core.fcmp_lt_key o.1 n0]
  have k0 : FP.Core.fkey 0 = 0 := by decide +kernel
  rw [k0]
  unfold FP.Core.fkey
  have h0 : u.toNat ≠ 2147483648 := fun e => o.2 (UInt32.toNat_inj.mp e)
  have e31 : ((2 ^ 31 : Nat) : Int) = 2147483648 := by decide
  by_cases c : 2 ^ 31 ≤ u.toNat
  · rw [if_pos c, e31]; omega
  · rw [if_neg c]; omega
theorem quo_sgn {a b : UInt32} (na : FP.Core.val32 a ≠ .nan) (hb : ∃ d r, FP.Core.val32 b = .fin false d r ∧ d ≠ 0) : FP.Core.val32 (FP.fdiv a b) ≠ .nan ∧ FP.Core.sgn (FP.Core.val32 (FP.fdiv a b)) = FP.Core.sgn (FP.Core.val32 a) := by
  obtain ⟨d, r, eb, d0⟩ := hb
  rw [FP.Core.val32_fdiv, eb]
  cases ea : FP.Core.val32 a with
  | nan => exact absurd ea na
  | inf s => exact ⟨FP.Core.Datum.noConfusion, by cases s <;> rfl⟩
  | fin s c q =>
    have e : FP.Core.quotient FP.Core.b32 (.fin s c q) (.fin false d r) = FP.Core.roundRatio FP.Core.b32 (s != false) c d (q - r) := if_neg d0
    rw [e]
    exact ⟨FP.Core.roundRatio_ne_nan _ _ _ _ _, by rw [FP.Core.sgn_roundRatio]; cases s <;> rfl⟩
theorem xor31 {n : Nat} (h : n < 4294967296) : n ^^^ 2147483648 = (n + 2147483648) % 4294967296 := by
  have e1 : (2147483648 : Nat) = 2 ^ 31 := by decide
  have e2 : (4294967296 : Nat) = 2 ^ 32 := by decide
  rw [e1, e2, Nat.add_comm]
  rw [e2] at h
  refine Nat.eq_of_testBit_eq (fun i => ?_)
  rw [Nat.testBit_xor, Nat.testBit_two_pow, Nat.testBit_mod_two_pow]
  by_cases c : i = 31
  · subst c
    rw [Nat.testBit_two_pow_add_eq]
    simp
  · by_cases d : i < 31
    · rw [Nat.testBit_two_pow_add_gt d]
      have : i < 32 := by omega
      have c' : ¬ 31 = i := by omega
      simp [this, c']
    · have : ¬ i < 32 := by omega
      have c' : ¬ 31 = i := by omega
      have hb : n.testBit i = false := Nat.testBit_lt_two_pow (Nat.lt_of_lt_of_le h (Nat.pow_le_pow_right (by decide) (by omega)))
      simp [this, c', hb]
theorem fneg_bits (u : UInt32) : (FP.fneg u).toNat = (u.toNat + 2147483648) % 4294967296 := by
  have hu := u.toNat_lt
  unfold FP.fneg
  rw [UInt32.toNat_xor]
  exact xor31 hu
theorem fneg_v (u : UInt32) : FP.Core.val32 (FP.fneg u) = FP.Core.negate (FP.Core.val32 u) := by
  have hu := u.toNat_lt
  refine FP.Core.val32_neg_bits ?_
  rw [fneg_bits]
  omega
theorem fneg_c {u : UInt32} (n : FP.Core.val32 u ≠ .nan) : FP.fneg u = FP.Core.fneg u := by
  refine FP.Core.val32_inj (by rw [fneg_v]; exact FP.Core.negate_ne_nan n) ?_
  rw [fneg_v, FP.Core.val32_fneg]
end Fl1
