section Fl3
variable {h : xH}
theorem oi {q : Int} (h1 : -2147483648 ≤ q) (h2 : q < 2147483648) : (Int32.ofInt q).toInt = q := by
  rw [Int32.toInt_ofInt, show Int32.size = 4294967296 from rfl]
  exact Int.bmod_eq_of_le (by omega) (by omega)
theorem oi_p (q : Int) : Int32.ofInt q + (1 : Int32) = Int32.ofInt (q + 1) := (Int32.ofInt_add q 1).symm
theorem oi_m (q : Int) : Int32.ofInt q + (-1 : Int32) = Int32.ofInt (q - 1) := by
  rw [show (-1 : Int32) = Int32.ofInt (-1) by decide, ← Int32.ofInt_add, Int.sub_eq_add_neg]
theorem oi_n (n : Nat) : nI n = Int32.ofInt (n : Int) := by
  refine Int32.toBitVec_inj.mp ?_
  show BitVec.ofNat 32 n = BitVec.ofInt 32 (n : Int)
  exact (BitVec.ofInt_natCast 32 n).symm
theorem fF_n32 {m : Nat} {k : Int} : vf_n32 (fF m k) := n32 fF_nn
/-- pack: the bits of a mantissa and a power -/
theorem w_pack {m : Nat} {p : Int} (hm : m < 16777216) (h1 : -149 ≤ p) (h2 : p ≤ 104) {Q : Int32 → xH → Prop} (q : Q (fF m p).toInt32 h) : p_Fl_pack (nI m) (Int32.ofInt p) h Q := by
  have j27 : ∀ (m : Nat) (p' : Int), m < 16777216 → -149 ≤ p' → p' ≤ 104 → (8388608 ≤ m ∨ p' = -149) → fF m p' = fF m p' → Q (fF m p').toInt32 h → p_Fl_pack_j27 (nI m) (Int32.ofInt p') h Q := by
    intro m p' hm h1 h2 c _ q
    unfold p_Fl_pack_j27
    rw [show (8388608 : Int32) = nI 8388608 from rfl, le_nn (by omega) (by omega)]
    refine ⟨fun f => ?_, fun f => ?_⟩
    · have e1 : Int32.ofInt p' - (-149 : Int32) + (1 : Int32) = nI ((p' + 149).toNat + 1) := by
        rw [oi_n, show (-149 : Int32) = Int32.ofInt (-149) by decide, show (1 : Int32) = Int32.ofInt 1 by decide, ← Int32.ofInt_sub, ← Int32.ofInt_add]
        exact congrArg Int32.ofInt (by omega)
      have l1 : (p' + 149).toNat + 1 ≤ 254 := by omega
      rw [e1, pk_shlN _ 23 rfl (by omega), show (2 : Nat) ^ 23 = 8388608 by decide, show (8388607 : Int32) = nI 8388607 from rfl]
      have e2 : nI m &&& nI 8388607 = nI (m - 8388608) := by
        rw [pk_andN (n := m) (by omega) (m := nI 8388607) 23 rfl]
        exact congrArg nI (by omega)
      rw [e2, nI_or (by omega) (by omega), or_low (by omega), ← fF_full hm f h1 h2, ← ui_n]
      exact q
    · have e : p' = -149 := by omega
      subst e
      have : nI m = (fF m (-149)).toInt32 := by rw [ui_n, fF_low (by omega)]
      rw [this]; exact q
  unfold p_Fl_pack
  have key : ∀ (n : Nat) (m : Nat) (p' : Int), m < 16777216 → -149 ≤ p' → p' ≤ 104 → (p' + 149).toNat ≤ n → Q (fF m p').toInt32 h → p_Fl_pack_L4 (fun (x7 : Int32) (x8 : Int32) (h9 : xH) => p_Fl_pack_j27 x7 x8 h9 Q) Q (n + 1) (nI m) (Int32.ofInt p') h := by
    intro n
    induction n with
    | zero =>
      intro m p' hm h1 h2 hn q
      have e : p' = -149 := by omega
      unfold p_Fl_pack_L4
      refine ⟨fun _ => j27 m p' hm h1 h2 (Or.inr e) rfl q, fun _ => ⟨fun _ => j27 m p' hm h1 h2 (Or.inr e) rfl q, fun z => ?_⟩⟩
      exact absurd (by rw [e]; decide) z
    | succ n ih =>
      intro m p' hm h1 h2 hn q
      unfold p_Fl_pack_L4
      rw [show (8388608 : Int32) = nI 8388608 from rfl, le_nn (by omega) (by omega)]
      refine ⟨fun f => j27 m p' hm h1 h2 (Or.inl f) rfl q, fun f => ⟨fun z => ?_, fun z v3 e3 v5 e5 => ?_⟩⟩
      · rw [ti_le, oi (by omega) (by omega), show (-149 : Int32).toInt = -149 from rfl] at z
        exact j27 m p' hm h1 h2 (Or.inr (by omega)) rfl q
      · rw [ti_le, oi (by omega) (by omega), show (-149 : Int32).toInt = -149 from rfl] at z
        rw [e3, e5, oi_m, pk_shlN _ 1 rfl (by omega), show m * 2 ^ 1 = m * 2 by omega]
        refine ih (m * 2) (p' - 1) (by omega) (by omega) (by omega) (by omega) ?_
        rw [fF_sh (by omega)]; exact q
  exact ⟨(p + 149).toNat + 1, key _ m p hm h1 h2 (Nat.le_refl _) q⟩
theorem i2f_F {m : Nat} (hm : m < 16777216) : FP.i2f (nI m) = fF m 0 := by
  show FP.Core.of32 (FP.Core.round FP.Core.b32 (FP.Core.ofInt (nI m).toInt)) = _
  rw [ti_n (by omega)]
  rfl
/-- toFloat is the lap itself -/
theorem w_toF {x : Int32} (n : isN x) {Q : UInt32 → xH → Prop} (q : Q x.toUInt32 h) : p_Fl_toFloat x h Q := by
  have pb := pN_b x n
  have mb := mN_lt x
  unfold p_Fl_toFloat
  refine w_mant (fun v3 e3 => w_pow ?_)
  rw [i2f_F mb] at e3
  subst e3
  have fin : ∀ x22, x22 = fF (mN x) (pN x) → ((0 ≤ x → Q x22 h) ∧ (¬ 0 ≤ x → Q (FP.fneg x22) h)) := by
    intro y ey
    rw [i_neg]
    have vx := v_x x n
    refine ⟨fun c => ?_, fun c => ?_⟩
    · rw [decide_eq_false (by omega)] at vx
      rw [ey, fF_self vx]; exact q
    · rw [decide_eq_true (by omega)] at vx
      have : FP.fneg y = x.toUInt32 := by
        refine FP.Core.val32_inj (by rw [fneg_v, ey]; exact FP.Core.negate_ne_nan fF_nn) ?_
        have ft := FP.Core.val32_fits x.toUInt32
        rw [vx] at ft
        have ft' : FP.Core.fits FP.Core.b32 (.fin false (mN x) (pN x)) := ft
        rw [fneg_v, ey, fF_v, FP.Core.round_of_fits FP.Core.good_b32 ft', vx]
        rfl
      rw [this]; exact q
  -- down to the power
  have L29 : ∀ (m : Nat) (k : Int), -149 ≤ k → k ≤ 0 → pN x ≤ 0 → (-k).toNat ≤ m → pN x ≤ k → p_Fl_toFloat_L29 x (fun (x21 : UInt32) (h22 : xH) => ((0 ≤ x → Q x21 h22) ∧ (¬ 0 ≤ x → Q (FP.fneg x21) h22))) Q (m + 1) (fF (mN x) (pN x - k)) (Int32.ofInt k) h := by
    intro m
    induction m with
    | zero =>
      intro k k1 k2 kp km kk
      have : k = 0 := by omega
      subst this
      unfold p_Fl_toFloat_L29
      exact ⟨fun _ => fin _ (by rw [Int.sub_zero]), fun z => absurd (by decide) z⟩
    | succ m ih =>
      intro k k1 k2 kp km kk
      unfold p_Fl_toFloat_L29
      rw [ti_le, oi (by omega) (by omega), show (0 : Int32).toInt = 0 from rfl]
      refine ⟨fun c => ?_, fun c => ?_⟩
      · have : k = 0 := by omega
        subst this
        exact fin _ (by rw [Int.sub_zero])
      · rw [fF_h mb (by omega) (by omega)]
        refine ⟨fF_n32, fun v17 e17 v19 e19 => ?_⟩
        rw [e17, e19, oi_p, show pN x - k - 1 = pN x - (k + 1) by omega]
        exact ih (k + 1) (by omega) (by omega) kp (by omega) (by omega)
  have L29' : 0 ≤ pN x → p_Fl_toFloat_L29 x (fun (x21 : UInt32) (h22 : xH) => ((0 ≤ x → Q x21 h22) ∧ (¬ 0 ≤ x → Q (FP.fneg x21) h22))) Q 1 (fF (mN x) (pN x)) (Int32.ofInt (pN x)) h := by
    intro c
    unfold p_Fl_toFloat_L29
    rw [ti_le, oi (by omega) (by omega), show (0 : Int32).toInt = 0 from rfl]
    exact ⟨fun _ => fin _ rfl, fun z => absurd c z⟩
  have L13 : ∀ (m : Nat) (k : Int), 0 ≤ k → k ≤ pN x → k.toNat ≤ m → p_Fl_toFloat_L13 x (Int32.ofInt (pN x)) (fun (x13 : UInt32) (h14 : xH) => (∃ f24, p_Fl_toFloat_L29 x (fun (x21 : UInt32) (h22 : xH) => ((0 ≤ x → Q x21 h22) ∧ (¬ 0 ≤ x → Q (FP.fneg x21) h22))) Q f24 x13 (Int32.ofInt (pN x)) h14)) Q (m + 1) (fF (mN x) (pN x - k)) (Int32.ofInt k) h := by
    intro m
    induction m with
    | zero =>
      intro k k1 k2 km
      have : k = 0 := by omega
      subst this
      unfold p_Fl_toFloat_L13
      exact ⟨fun _ => ⟨1, by rw [Int.sub_zero]; exact L29' k2⟩, fun z => absurd (by decide) z⟩
    | succ m ih =>
      intro k k1 k2 km
      unfold p_Fl_toFloat_L13
      rw [ti_le, oi (by omega) (by omega), show (0 : Int32).toInt = 0 from rfl]
      refine ⟨fun c => ?_, fun c => ?_⟩
      · have : k = 0 := by omega
        subst this
        exact ⟨1, by rw [Int.sub_zero]; exact L29' k2⟩
      · rw [fF_2 mb (by omega) (by omega)]
        refine ⟨fF_n32, fun v9 e9 v11 e11 => ?_⟩
        rw [e9, e11, oi_m, show pN x - k + 1 = pN x - (k - 1) by omega]
        exact ih (k - 1) (by omega) (by omega) (by omega)
  show ∃ f25, p_Fl_toFloat_L13 x (Int32.ofInt (pN x)) _ Q f25 (fF (mN x) 0) (Int32.ofInt (pN x)) h
  by_cases c : 0 ≤ pN x
  · refine ⟨(pN x).toNat + 1, ?_⟩
    have := L13 (pN x).toNat (pN x) c (Int.le_refl _) (Nat.le_refl _)
    rw [Int.sub_self] at this
    exact this
  · refine ⟨1, ?_⟩
    unfold p_Fl_toFloat_L13
    refine ⟨fun _ => ⟨(-(pN x)).toNat + 1, ?_⟩, fun z => absurd (by rw [ti_le, oi (by omega) (by omega), show (0 : Int32).toInt = 0 from rfl]; omega) z⟩
    have := L29 (-(pN x)).toNat (pN x) (by omega) (by omega) (by omega) (Nat.le_refl _) (Int.le_refl _)
    rw [Int.sub_self] at this
    exact this
end Fl3
