section Fl4
variable {h : xH}
theorem cvk {a b : UInt32} {o : CmpOp} (na : FP.Core.val32 a ≠ .nan) (nb : FP.Core.val32 b ≠ .nan) : Op.cmpValue (FP.fcmp a b) o = if FP.Core.fkey a < FP.Core.fkey b then -1 else if FP.Core.fkey a = FP.Core.fkey b then 0 else 1 := by
  show Op.cmpValue (FP.Core.fcmp a b) o = _
  rw [FP.Core.fcmp_key na nb, FP.Core.compare_ite]
  by_cases c : FP.Core.fkey a < FP.Core.fkey b
  · rw [if_pos c, if_pos c]; rfl
  · rw [if_neg c, if_neg c]
    by_cases d : FP.Core.fkey a = FP.Core.fkey b
    · rw [if_pos d, if_pos d]; rfl
    · rw [if_neg d, if_neg d]; rfl
theorem cvz {a b : UInt32} {o : CmpOp} (na : FP.Core.val32 a ≠ .nan) (nb : FP.Core.val32 b ≠ .nan) : Op.cmpValue (FP.fcmp a b) o = if FP.Core.zval FP.Core.b32 (FP.Core.val32 a) < FP.Core.zval FP.Core.b32 (FP.Core.val32 b) then -1 else if FP.Core.zval FP.Core.b32 (FP.Core.val32 a) = FP.Core.zval FP.Core.b32 (FP.Core.val32 b) then 0 else 1 := by
  show Op.cmpValue (FP.Core.fcmp a b) o = _
  rw [FP.Core.fcmp_zval na nb, FP.Core.compare_ite]
  by_cases c : FP.Core.zval FP.Core.b32 (FP.Core.val32 a) < FP.Core.zval FP.Core.b32 (FP.Core.val32 b)
  · rw [if_pos c, if_pos c]; rfl
  · rw [if_neg c, if_neg c]
    by_cases d : FP.Core.zval FP.Core.b32 (FP.Core.val32 a) = FP.Core.zval FP.Core.b32 (FP.Core.val32 b)
    · rw [if_pos d, if_pos d]; rfl
    · rw [if_neg d, if_neg d]; rfl
theorem t3_lt {x y : Int} : (if x < y then (-1 : Int32) else if x = y then 0 else 1) < 0 ↔ x < y := by
  by_cases c : x < y
  · rw [if_pos c]; exact ⟨fun _ => c, fun _ => by decide⟩
  · rw [if_neg c]
    by_cases d : x = y
    · rw [if_pos d]; exact ⟨fun z => absurd z (by decide), fun z => absurd z c⟩
    · rw [if_neg d]; exact ⟨fun z => absurd z (by decide), fun z => absurd z c⟩
theorem t3_le {x y : Int} : (if x < y then (-1 : Int32) else if x = y then 0 else 1) ≤ 0 ↔ x ≤ y := by
  by_cases c : x < y
  · rw [if_pos c]; exact ⟨fun _ => by omega, fun _ => by decide⟩
  · rw [if_neg c]
    by_cases d : x = y
    · rw [if_pos d]; exact ⟨fun _ => by omega, fun _ => by decide⟩
    · rw [if_neg d]; exact ⟨fun z => absurd z (by decide), fun z => by omega⟩
theorem t3_ge {x y : Int} : 0 ≤ (if x < y then (-1 : Int32) else if x = y then 0 else 1) ↔ ¬ x < y := by
  by_cases c : x < y
  · rw [if_pos c]; exact ⟨fun z => absurd z (by decide), fun z => absurd c z⟩
  · rw [if_neg c]
    by_cases d : x = y
    · rw [if_pos d]; exact ⟨fun _ => c, fun _ => by decide⟩
    · rw [if_neg d]; exact ⟨fun _ => c, fun _ => by decide⟩
theorem t3_gt {x y : Int} : 0 < (if x < y then (-1 : Int32) else if x = y then 0 else 1) ↔ y < x := by
  by_cases c : x < y
  · rw [if_pos c]; exact ⟨fun z => absurd z (by decide), fun z => by omega⟩
  · rw [if_neg c]
    by_cases d : x = y
    · rw [if_pos d]; exact ⟨fun z => absurd z (by decide), fun z => by omega⟩
    · rw [if_neg d]; exact ⟨fun _ => by omega, fun _ => by decide⟩
theorem t3_eq {x y : Int} : (if x < y then (-1 : Int32) else if x = y then 0 else 1) = 0 ↔ x = y := by
  by_cases c : x < y
  · rw [if_pos c]; exact ⟨fun z => absurd z (by decide), fun z => by omega⟩
  · rw [if_neg c]
    by_cases d : x = y
    · rw [if_pos d]; exact ⟨fun _ => d, fun _ => rfl⟩
    · rw [if_neg d]; exact ⟨fun z => absurd z (by decide), fun z => absurd z d⟩
theorem z24 : FP.Core.val32 1266679808 ≠ .nan ∧ FP.Core.zval FP.Core.b32 (FP.Core.val32 1266679808) = ((16777216 * 2 ^ 149 : Nat) : Int) := by decide +kernel
theorem z23 : FP.Core.val32 1258291200 ≠ .nan ∧ FP.Core.zval FP.Core.b32 (FP.Core.val32 1258291200) = ((8388608 * 2 ^ 149 : Nat) : Int) := by decide +kernel
theorem p_split {a b : Nat} : (2 : Nat) ^ (a + b) = 2 ^ a * 2 ^ b := Nat.pow_add 2 a b
/-- below and above the two bounds -/
theorem th_lo {c B : Nat} {k : Int} (hc : c < B) (k0 : k ≤ 0) : c * 2 ^ (k + 149).toNat < B * 2 ^ 149 := by
  have h1 : (2 : Nat) ^ (k + 149).toNat ≤ 2 ^ 149 := Nat.pow_le_pow_right (by decide) (by omega)
  have h2 := Nat.mul_le_mul_left c h1
  have h3 : c * 2 ^ 149 < B * 2 ^ 149 := Nat.mul_lt_mul_of_pos_right hc (Nat.two_pow_pos _)
  exact Nat.lt_of_le_of_lt h2 h3
theorem th_lo2 {c : Nat} {k : Int} (hc : c < 16777216) (k0 : k < 0) : c * 2 ^ (k + 149).toNat < 8388608 * 2 ^ 149 := by
  have h1 : (2 : Nat) ^ (k + 149).toNat ≤ 2 ^ 148 := Nat.pow_le_pow_right (by decide) (by omega)
  have h2 := Nat.mul_le_mul_left c h1
  have h3 : c * 2 ^ 148 < 16777216 * 2 ^ 148 := Nat.mul_lt_mul_of_pos_right hc (Nat.two_pow_pos _)
  have h4 : 16777216 * 2 ^ 148 = 8388608 * 2 ^ 149 := by decide +kernel
  omega
theorem th_hi {c : Nat} {k : Int} (hc : 8388608 ≤ c) (k0 : 1 ≤ k) : 16777216 * 2 ^ 149 ≤ c * 2 ^ (k + 149).toNat := by
  have h1 : (2 : Nat) ^ 150 ≤ 2 ^ (k + 149).toNat := Nat.pow_le_pow_right (by decide) (by omega)
  have h2 := Nat.mul_le_mul hc h1
  have h4 : 16777216 * 2 ^ 149 = 8388608 * 2 ^ 150 := by decide +kernel
  omega
theorem w_size {u : UInt32} (n : FP.Core.val32 u ≠ .nan) (pos : u.toNat < 2147483648) {Q : Int32 → xH → Prop} (q : Q u.toInt32 h) : p_Fl_sizeBits u h Q := by
  have nm : FP.Core.val32 2139095039 ≠ .nan := by decide +kernel
  have km : FP.Core.fkey 2139095039 = 2139095039 := by decide +kernel
  have ku : FP.Core.fkey u = (u.toNat : Int) := by unfold FP.Core.fkey; rw [if_neg (by omega)]
  have le : u.toNat ≤ 2139095040 := by have := (FP.Core.ne_nan32 u).mp n; omega
  unfold p_Fl_sizeBits
  rw [cvk n nm, km, ku, t3_le]
  refine ⟨fun c => ?_, fun c => ?_⟩
  · have nu : isN u.toInt32 := by
      unfold isN
      rw [u_i]
      omega
    have vu := v_x u.toInt32 nu
    rw [u_i, decide_eq_false (by omega)] at vu
    have pb := pN_b _ nu
    have mb := mN_lt u.toInt32
    have ff := mp_f u.toInt32
    generalize mN u.toInt32 = c at vu mb ff
    generalize pN u.toInt32 = k at vu pb ff
    have self := fF_self vu
    have z : ∀ k', -149 ≤ k' → k' ≤ 104 → FP.Core.zval FP.Core.b32 (FP.Core.val32 (fF c k')) = ((c * 2 ^ (k' + 149).toNat : Nat) : Int) := fun k' h1 h2 => fF_z mb h1 h2
    have cmp24 : ∀ k', -149 ≤ k' → k' ≤ 104 → (Op.cmpValue (FP.fcmp (fF c k') (1266679808 : UInt32)) (.l : CmpOp) < 0 ↔ c * 2 ^ (k' + 149).toNat < 16777216 * 2 ^ 149) := fun k' h1 h2 => by
      rw [cvz fF_nn z24.1, t3_lt, z k' h1 h2, z24.2]; exact Int.ofNat_lt
    have cmp23 : ∀ k', -149 ≤ k' → k' ≤ 104 → (0 ≤ Op.cmpValue (FP.fcmp (fF c k') (1258291200 : UInt32)) (.g : CmpOp) ↔ ¬ c * 2 ^ (k' + 149).toNat < 8388608 * 2 ^ 149) := fun k' h1 h2 => by
      rw [cvz fF_nn z23.1, t3_ge, z k' h1 h2, z23.2]; exact not_congr Int.ofNat_lt
    -- the end
    have fin : p_Fl_sizeBits_j62 (fF c 0) (Int32.ofInt k) h Q := by
      unfold p_Fl_sizeBits_j62
      have e : FP.f2i (fF c 0) = nI c := by
        rw [← i2f_F mb]
        exact FP.Core.f2i_i2f (by rw [ti_n (by omega)]; show c ≤ 2 ^ 24; omega)
      rw [e]
      refine w_pack mb pb.1 pb.2 ?_
      rw [self]; exact q
    have L38 : ∀ (m : Nat) (j : Nat), j ≤ 149 → k + j ≤ 0 → (-(k + j)).toNat ≤ m → p_Fl_sizeBits_L38 (fun (x19 : UInt32) (x20 : Int32) (h21 : xH) => p_Fl_sizeBits_j62 x19 x20 h21 Q) Q (m + 1) (fF c (k + j)) (Int32.ofInt (-(j : Int))) h := by
      intro m
      induction m with
      | zero =>
        intro j hj hk hm
        have e : k + j = 0 := by omega
        have e2 : -(j : Int) = k := by omega
        unfold p_Fl_sizeBits_L38
        rw [e, e2]
        refine ⟨fun _ => fin, fun y => ⟨fun _ => fin, fun w => ?_⟩⟩
        rw [cmp23 0 (by omega) (by omega)] at y
        rw [ti_le, oi (by omega) (by omega), show (-149 : Int32).toInt = -149 from rfl] at w
        rcases ff with f | f
        · omega
        · exact absurd (show ¬ c * 2 ^ ((0 : Int) + 149).toNat < 8388608 * 2 ^ 149 by
            have := Nat.mul_le_mul_right (2 ^ 149) f
            show ¬ c * 2 ^ 149 < 8388608 * 2 ^ 149
            omega) y
      | succ m ih =>
        intro j hj hk hm
        unfold p_Fl_sizeBits_L38
        by_cases e : k + j = 0
        · have e2 : -(j : Int) = k := by omega
          rw [e, e2]
          refine ⟨fun _ => fin, fun y => ⟨fun _ => fin, fun w => ?_⟩⟩
          rw [cmp23 0 (by omega) (by omega)] at y
          rw [ti_le, oi (by omega) (by omega), show (-149 : Int32).toInt = -149 from rfl] at w
          rcases ff with f | f
          · omega
          · exact absurd (show ¬ c * 2 ^ ((0 : Int) + 149).toNat < 8388608 * 2 ^ 149 by
              have := Nat.mul_le_mul_right (2 ^ 149) f
              show ¬ c * 2 ^ 149 < 8388608 * 2 ^ 149
              omega) y
        · rw [cmp23 (k + j) (by omega) (by omega), ti_le, oi (by omega) (by omega), show (-149 : Int32).toInt = -149 from rfl, fF_2 mb (by omega) (by omega)]
          refine ⟨fun y => absurd (th_lo2 mb (by omega)) y, fun _ => ⟨fun w => by omega, fun _ => ⟨fF_n32, fun v15 e15 v17 e17 => ?_⟩⟩⟩
          rw [e15, e17, oi_m, show k + (j : Int) + 1 = k + ((j + 1 : Nat) : Int) by omega, show -(j : Int) - 1 = -((j + 1 : Nat) : Int) by omega]
          exact ih (j + 1) (by omega) (by omega) (by omega)
    have after : ∀ (x9 : UInt32) (x10 : Int32), (0 ≤ k → x9 = fF c 0 ∧ x10 = Int32.ofInt k) → (k < 0 → x9 = fF c k ∧ x10 = 0) → ∃ f24, p_Fl_sizeBits_L38 (fun (x19 : UInt32) (x20 : Int32) (h21 : xH) => p_Fl_sizeBits_j62 x19 x20 h21 Q) Q f24 x9 x10 h := by
      intro x9 x10 a1 a2
      by_cases s : 0 ≤ k
      · obtain ⟨e1, e2⟩ := a1 s
        refine ⟨1, ?_⟩
        unfold p_Fl_sizeBits_L38
        rw [e1, e2, cmp23 0 (by omega) (by omega)]
        refine ⟨fun _ => fin, fun y => absurd (show ¬ c * 2 ^ ((0 : Int) + 149).toNat < 8388608 * 2 ^ 149 by
          have f : 8388608 ≤ c := by omega
          have := Nat.mul_le_mul_right (2 ^ 149) f
          show ¬ c * 2 ^ 149 < 8388608 * 2 ^ 149
          omega) y⟩
      · obtain ⟨e1, e2⟩ := a2 (by omega)
        refine ⟨(-k).toNat + 1, ?_⟩
        have := L38 (-k).toNat 0 (by omega) (by omega) (by omega)
        rw [show k + ((0 : Nat) : Int) = k by omega, show Int32.ofInt (-((0 : Nat) : Int)) = 0 from rfl] at this
        rw [e1, e2]
        exact this
    have L14 : ∀ (m : Nat) (j : Nat), (k - j).toNat ≤ m → (j = 0 ∨ (j : Int) ≤ k) → p_Fl_sizeBits_L14 (fun (x9 : UInt32) (x10 : Int32) (h11 : xH) => (∃ f24, p_Fl_sizeBits_L38 (fun (x19 : UInt32) (x20 : Int32) (h21 : xH) => p_Fl_sizeBits_j62 x19 x20 h21 Q) Q f24 x9 x10 h11)) Q (m + 1) (fF c (k - j)) (nI j) h := by
      intro m
      induction m with
      | zero =>
        intro j hm hj
        have aft := after (fF c (k - j)) (nI j) (fun s => by
          have e : k = j := by omega
          rw [e, Int.sub_self]; exact ⟨rfl, oi_n j⟩) (fun s => by
          have e : j = 0 := by omega
          subst e
          exact ⟨by rw [show k - ((0 : Nat) : Int) = k by omega], rfl⟩)
        unfold p_Fl_sizeBits_L14
        rw [cmp24 (k - j) (by omega) (by omega)]
        exact ⟨fun _ => aft, fun y => absurd (th_lo mb (by omega)) y⟩
      | succ m ih =>
        intro j hm hj
        by_cases s : 1 ≤ k - j
        · have f : 8388608 ≤ c := by omega
          unfold p_Fl_sizeBits_L14
          rw [cmp24 (k - j) (by omega) (by omega), fF_h mb (by omega) (by omega), show (104 : Int32) = nI 104 from rfl, le_nn (by omega) (by omega)]
          refine ⟨fun y => absurd (th_hi f s) (by omega), fun _ => ⟨fun w => by omega, fun _ => ⟨fF_n32, fun v5 e5 v7 e7 => ?_⟩⟩⟩
          rw [e5, e7, nI_1, show k - (j : Int) - 1 = k - ((j + 1 : Nat) : Int) by omega]
          exact ih (j + 1) (by omega) (by omega)
        · have aft := after (fF c (k - j)) (nI j) (fun s => by
            have e : k = j := by omega
            rw [e, Int.sub_self]; exact ⟨rfl, oi_n j⟩) (fun s => by
            have e : j = 0 := by omega
            subst e
            exact ⟨by rw [show k - ((0 : Nat) : Int) = k by omega], rfl⟩)
          unfold p_Fl_sizeBits_L14
          rw [cmp24 (k - j) (by omega) (by omega)]
          exact ⟨fun _ => aft, fun y => absurd (th_lo mb (by omega)) y⟩
    refine ⟨k.toNat + 1, ?_⟩
    have := L14 k.toNat 0 (by omega) (Or.inl rfl)
    rw [show k - ((0 : Nat) : Int) = k by omega, self] at this
    exact this
  · have e : u.toNat = 2139095040 := by omega
    have : u.toInt32 = 2139095040 := by rw [ui_n, e]; rfl
    rw [this] at q
    exact q
end Fl4
