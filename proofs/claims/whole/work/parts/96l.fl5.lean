section Fl5
variable {h : xH}
theorem or31 {y : Nat} (hy : y < 2147483648) : y ||| 2147483648 = y + 2147483648 := by
  have := Nat.shiftLeft_add_eq_or_of_lt (i := 31) (b := y) hy 1
  rw [Nat.shiftLeft_eq, Nat.one_mul] at this
  rw [Nat.or_comm, Nat.add_comm]
  exact this.symm
theorem or_sgn {a b : UInt32} (ha : a.toNat < 2147483648) (e : b.toNat = a.toNat + 2147483648) : a.toInt32 ||| (-2147483648 : Int32) = b.toInt32 := by
  rw [ui_n, ui_n, show (-2147483648 : Int32) = nI 2147483648 from rfl, nI_or (by omega) (by omega), or31 ha, e]
/-- the quotient's bits -/
theorem w_quot {S : UInt32} (ok : okS S) {n : Nat} (h1 : 1 ≤ n) (h2 : n ≤ 12) {Q : Int32 → xH → Prop} (q : Q (FP.fdiv S (FP.i2f (nI n))).toInt32 h) : p_Fl_quotientBits S (nI n) h Q := by
  have n0 : FP.Core.val32 0 ≠ .nan := by decide +kernel
  have hS := S.toNat_lt
  have hb : ∃ d r, FP.Core.val32 (FP.i2f (nI n)) = .fin false d r ∧ d ≠ 0 := by
    rw [i2f_F (by omega)]
    obtain ⟨c, k, e1, e2, e3⟩ := fF_val (m := n) (k := 0) (by omega) (by omega) (by omega)
    refine ⟨c, k, e1, fun z => ?_⟩
    rw [z, Nat.zero_mul] at e2
    rcases Nat.mul_eq_zero.mp e2.symm with y | y
    · omega
    · exact absurd y (Nat.ne_of_gt (Nat.two_pow_pos _))
  have j12 : ∀ s0, FP.Core.val32 s0 ≠ .nan → FP.Core.sgn (FP.Core.val32 s0) = false → ((0 ≤ Op.cmpValue (FP.fcmp S (0 : UInt32)) (.g : CmpOp) → Q ((FP.fdiv s0 (FP.i2f (nI n))).toInt32 ||| (0 : Int32)) h) ∧ (¬ 0 ≤ Op.cmpValue (FP.fcmp S (0 : UInt32)) (.g : CmpOp) → Q ((FP.fdiv s0 (FP.i2f (nI n))).toInt32 ||| (-2147483648 : Int32)) h)) → p_Fl_quotientBits_j12 s0 S (nI n) h Q := by
    intro s0 ns sg fin
    unfold p_Fl_quotientBits_j12 p_Jm_max
    obtain ⟨qn, qs⟩ := quo_sgn ns hb
    rw [show (1 : Int32) = nI 1 from rfl, ltn (by omega) (by omega)]
    refine ⟨fun c => by omega, fun _ => ⟨n32 qn, fun v5 e5 => ?_⟩⟩
    rw [e5]
    exact w_size qn (pos_lt qn (qs.trans sg)) fin
  have cg : 0 ≤ Op.cmpValue (FP.fcmp S (0 : UInt32)) (.g : CmpOp) ↔ S.toNat < 2147483648 := by
    have c0 := cmp0 ok
    rw [cvk ok.1 n0, t3_ge, ← FP.Core.fcmp_lt_key ok.1 n0]
    exact (not_congr c0).trans (by omega)
  unfold p_Fl_quotientBits
  refine ⟨fun c => j12 S ok.1 (lt_pos ok.1 (cg.mp c)) ⟨fun _ => ?_, fun z => absurd c z⟩, fun c => ?_⟩
  · rw [Int32.or_zero]; exact q
  · have big : 2147483648 ≤ S.toNat := by have := mt cg.mpr c; omega
    have nf : FP.Core.val32 (FP.fneg S) ≠ .nan := by rw [fneg_v]; exact FP.Core.negate_ne_nan ok.1
    have fb := fneg_bits S
    have fl : (FP.fneg S).toNat < 2147483648 := by rw [fb]; omega
    refine j12 (FP.fneg S) nf (lt_pos nf fl) ⟨fun z => absurd z c, fun _ => ?_⟩
    obtain ⟨qn, qs⟩ := quo_sgn ok.1 hb
    obtain ⟨rn, rs⟩ := quo_sgn nf hb
    have e : FP.fdiv (FP.fneg S) (FP.i2f (nI n)) = FP.fneg (FP.fdiv S (FP.i2f (nI n))) := by
      rw [fneg_c ok.1, fneg_c qn]; exact FP.Core.fdiv_fneg _ _
    have xb : 2147483648 ≤ (FP.fdiv S (FP.i2f (nI n))).toNat := by
      rw [ge_neg ok.1 big, FP.Core.sgn_bits32 qn] at qs
      exact of_decide_eq_true qs
    have xl := (FP.fdiv S (FP.i2f (nI n))).toNat_lt
    have nb := fneg_bits (FP.fdiv S (FP.i2f (nI n)))
    rw [e, or_sgn (b := FP.fdiv S (FP.i2f (nI n))) (by rw [nb]; omega) (by rw [nb]; omega)]
    exact q
theorem irem {a d : Nat} (ha : a < 2147483648) (d0 : 0 < d) (hd : d < 2147483648) : nI a - nI a / nI d * nI d = nI (a % d) := by
  have dv : nI a / nI d = nI (a / d) := pk_div (by omega) (by omega) (by omega)
  rw [dv, nI_x, nI_mn (Nat.div_mul_le_self a d)]
  congr 1
  have := Nat.div_add_mod a d
  rw [Nat.mul_comm] at this
  omega
/-- size of the remainder -/
theorem w_sizeR {x y : Int32} (nx : isN x) (ny : isN y) (y0 : mN y ≠ 0) {Q : Int32 → xH → Prop}
    (hi : pN y ≤ pN x → Q (fF (mN x * 2 ^ (pN x - pN y).toNat % mN y) (pN y)).toInt32 h) (lo : pN x < pN y → Q (x &&& (2147483647 : Int32)) h) : p_Fl_sizeOfRemainder x y h Q := by
  have px := pN_b x nx
  have py := pN_b y ny
  have mx := mN_lt x
  have my := mN_lt y
  unfold p_Fl_sizeOfRemainder
  refine w_pow (w_pow (fun v5 e5 => ?_))
  rw [← Int32.ofInt_sub] at e5
  subst e5
  rw [ti_le, oi (by omega) (by omega), show (0 : Int32).toInt = 0 from rfl]
  refine ⟨fun c => w_mant ?_, fun c => lo (by omega)⟩
  unfold p_Jm_max
  rw [ti_lt, ti_n (by omega), show (1 : Int32).toInt = 1 from rfl]
  refine ⟨fun z => by omega, fun _ => w_mant ?_⟩
  have d0 : ¬ nI (mN y) = (0 : Int32) := fun z => y0 ((nI_inj (b := 0) (by omega) (by omega)).mp z)
  refine ⟨d0, fun v15 e15 => ?_⟩
  rw [irem (by omega) (by omega) (by omega)] at e15
  have key : ∀ (m j r : Nat), ((pN x - pN y).toNat - j) = m → j ≤ (pN x - pN y).toNat → r = mN x * 2 ^ j % mN y → p_Fl_sizeOfRemainder_L39 y (Int32.ofInt (pN x - pN y)) (nI (mN y)) (fun (x23 : Int32) (h24 : xH) => p_Fl_power y h24 (fun (v26 : Int32) (h25 : xH) => p_Fl_pack x23 v26 h25 (fun (v28 : Int32) (h27 : xH) => Q v28 h27))) Q (m + 1) (nI r) (nI j) h := by
    intro m
    induction m with
    | zero =>
      intro j r hm hj er
      have e : j = (pN x - pN y).toNat := by omega
      subst e
      have rl : r < mN y := by rw [er]; exact Nat.mod_lt _ (by omega)
      unfold p_Fl_sizeOfRemainder_L39
      rw [ti_le, oi (by omega) (by omega), ti_n (by omega)]
      refine ⟨fun _ => w_pow (w_pack (by omega) py.1 py.2 ?_), fun z => absurd (by omega) z⟩
      rw [er]; exact hi (by omega)
    | succ m ih =>
      intro j r hm hj er
      have rl : r < mN y := by rw [er]; exact Nat.mod_lt _ (by omega)
      unfold p_Fl_sizeOfRemainder_L39
      rw [ti_le, oi (by omega) (by omega), ti_n (by omega)]
      refine ⟨fun z => by omega, fun _ => ⟨d0, fun v19 e19 v21 e21 => ?_⟩⟩
      rw [show (2 : Int32) = nI 2 from rfl, nI_x, irem (by omega) (by omega) (by omega)] at e19
      rw [e19, e21, nI_1]
      refine ih (j + 1) (r * 2 % mN y) (by omega) (by omega) ?_
      rw [er, Nat.pow_succ, ← Nat.mul_assoc, Nat.mod_mul_mod]
  refine ⟨(pN x - pN y).toNat + 1, ?_⟩
  rw [e15]
  exact key _ 0 _ (by omega) (by omega) (by rw [Nat.pow_zero, Nat.mul_one])
/-- the remainder as bits -/
theorem rem_hi {x y : Int32} (nx : isN x) (ny : isN y) (y0 : mN y ≠ 0) (c : pN y ≤ pN x) : (fF (mN x * 2 ^ (pN x - pN y).toNat % mN y) (pN y)).toInt32 ||| (x &&& (-2147483648 : Int32)) = (FP.frem x.toUInt32 y.toUInt32).toInt32 := by
  have hx := x.toUInt32.toNat_lt
  have py := pN_b y ny
  have my := mN_lt y
  have rl : mN x * 2 ^ (pN x - pN y).toNat % mN y < mN y := Nat.mod_lt _ (by omega)
  have ex : FP.Core.val32 (FP.frem x.toUInt32 y.toUInt32) = FP.Core.round FP.Core.b32 (.fin (decide (2147483648 ≤ x.toUInt32.toNat)) (mN x * 2 ^ (pN x - pN y).toNat % mN y) (pN y)) := by
    show FP.Core.val32 (FP.Core.frem _ _) = _
    rw [FP.Core.val32_frem, v_x x nx, v_x y ny]
    have : FP.Core.exactRemainder (.fin (decide (2147483648 ≤ x.toUInt32.toNat)) (mN x) (pN x)) (.fin (decide (2147483648 ≤ y.toUInt32.toNat)) (mN y) (pN y)) = .fin (decide (2147483648 ≤ x.toUInt32.toNat)) (FP.Core.inUnits (mN x) (pN x) (min (pN x) (pN y)) % FP.Core.inUnits (mN y) (pN y) (min (pN x) (pN y))) (min (pN x) (pN y)) := if_neg y0
    rw [this, show min (pN x) (pN y) = pN y by omega]
    unfold FP.Core.inUnits
    rw [Int.sub_self, show (0 : Int).toNat = 0 from rfl, Nat.pow_zero, Nat.mul_one]
  have fl := pos_lt (u := fF (mN x * 2 ^ (pN x - pN y).toNat % mN y) (pN y)) fF_nn (by rw [fF_v]; exact FP.Core.sgn_roundRatio _ _ _ _ _)
  generalize mN x * 2 ^ (pN x - pN y).toNat % mN y = r at rl ex fl
  have sx : x &&& (-2147483648 : Int32) = if 2147483648 ≤ x.toUInt32.toNat then nI 2147483648 else 0 := by
    refine i_eq ?_
    rw [Int32.toBitVec_and, BitVec.toNat_and]
    have e2 : (-2147483648 : Int32).toBitVec.toNat = 2147483648 := by decide
    rw [e2]
    show x.toUInt32.toNat &&& 2147483648 = _
    have tb : x.toUInt32.toNat &&& 2147483648 = if x.toUInt32.toNat.testBit 31 then 2147483648 else 0 := by
      rw [show (2147483648 : Nat) = 2 ^ 31 by decide]
      refine Nat.eq_of_testBit_eq (fun i => ?_)
      rw [Nat.testBit_and, Nat.testBit_two_pow]
      by_cases d : 31 = i
      · subst d
        by_cases t : x.toUInt32.toNat.testBit 31 = true
        · rw [t, if_pos rfl, Nat.testBit_two_pow_self]; simp
        · have t' : x.toUInt32.toNat.testBit 31 = false := by simpa using t
          rw [t', if_neg (by decide)]; simp
      · by_cases t : x.toUInt32.toNat.testBit 31 = true
        · rw [t, if_pos rfl, Nat.testBit_two_pow]
          simp [d]
        · rw [if_neg t]; simp [d]
    have tt : x.toUInt32.toNat.testBit 31 = decide (2147483648 ≤ x.toUInt32.toNat) := by
      rw [Nat.testBit_eq_decide_div_mod_eq]
      rw [show (2 : Nat) ^ 31 = 2147483648 by decide]
      by_cases c : 2147483648 ≤ x.toUInt32.toNat
      · have : x.toUInt32.toNat / 2147483648 % 2 = 1 := by omega
        simp [this, c]
      · have : x.toUInt32.toNat / 2147483648 % 2 = 0 := by omega
        simp [this, c]
    rw [tb, tt]
    by_cases c : 2147483648 ≤ x.toUInt32.toNat
    · rw [if_pos c, decide_eq_true c, if_pos rfl]; rfl
    · rw [if_neg c, decide_eq_false c]; rfl
  rw [sx]
  by_cases s : 2147483648 ≤ x.toUInt32.toNat
  · rw [if_pos s]
    rw [decide_eq_true s] at ex
    have e : FP.frem x.toUInt32 y.toUInt32 = FP.fneg (fF r (pN y)) := by
      refine FP.Core.val32_inj (by rw [ex]; exact FP.Core.roundRatio_ne_nan _ _ _ _ _) ?_
      rw [ex, fneg_v, fF_v, FP.Core.negate_round]; rfl
    rw [e]
    exact or_sgn fl (by rw [fneg_bits]; omega)
  · rw [if_neg s, Int32.or_zero]
    rw [decide_eq_false s] at ex
    have e : FP.frem x.toUInt32 y.toUInt32 = fF r (pN y) := by
      refine FP.Core.val32_inj (by rw [ex]; exact FP.Core.roundRatio_ne_nan _ _ _ _ _) ?_
      rw [ex, fF_v]
    rw [e]
theorem rem_id {x : Int32} {Y : UInt32} (nx : isN x) (e : FP.Core.exactRemainder (FP.Core.val32 x.toUInt32) (FP.Core.val32 Y) = FP.Core.val32 x.toUInt32) : FP.frem x.toUInt32 Y = x.toUInt32 := by
  have n : FP.Core.val32 x.toUInt32 ≠ .nan := by rw [v_x x nx]; exact FP.Core.Datum.noConfusion
  refine (FP.Core.val32_inj n ?_).symm
  show FP.Core.val32 x.toUInt32 = FP.Core.val32 (FP.Core.frem _ _)
  rw [FP.Core.val32_frem, e, FP.Core.round_of_fits FP.Core.good_b32 (FP.Core.val32_fits _)]
theorem rem_lo {x y : Int32} (nx : isN x) (ny : isN y) (y0 : mN y ≠ 0) (c : pN x < pN y) : FP.frem x.toUInt32 y.toUInt32 = x.toUInt32 := by
  have px := pN_b x nx
  have mx := mN_lt x
  have fy := mp_f y
  refine rem_id nx ?_
  rw [v_x x nx, v_x y ny]
  have : FP.Core.exactRemainder (.fin (decide (2147483648 ≤ x.toUInt32.toNat)) (mN x) (pN x)) (.fin (decide (2147483648 ≤ y.toUInt32.toNat)) (mN y) (pN y)) = .fin (decide (2147483648 ≤ x.toUInt32.toNat)) (FP.Core.inUnits (mN x) (pN x) (min (pN x) (pN y)) % FP.Core.inUnits (mN y) (pN y) (min (pN x) (pN y))) (min (pN x) (pN y)) := if_neg y0
  rw [this, show min (pN x) (pN y) = pN x by omega]
  unfold FP.Core.inUnits
  rw [Int.sub_self, show (0 : Int).toNat = 0 from rfl, Nat.pow_zero, Nat.mul_one, Nat.mod_eq_of_lt]
  have f : 8388608 ≤ mN y := by omega
  have p1 : (2 : Nat) ^ 1 ≤ 2 ^ (pN y - pN x).toNat := Nat.pow_le_pow_right (by decide) (by omega)
  have := Nat.mul_le_mul f p1
  omega
theorem x_split (x : Int32) : (x &&& (2147483647 : Int32)) ||| (x &&& (-2147483648 : Int32)) = x := by
  refine Int32.toBitVec_inj.mp ?_
  rw [Int32.toBitVec_or, Int32.toBitVec_and, Int32.toBitVec_and, ← BitVec.and_or_distrib_left]
  have : (2147483647 : Int32).toBitVec ||| (-2147483648 : Int32).toBitVec = BitVec.allOnes 32 := by decide
  rw [this, BitVec.and_allOnes]
end Fl5
