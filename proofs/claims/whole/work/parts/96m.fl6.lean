section Fl6
variable {L : Nat} {xs : Nat → Int32} {nr nt : Nat} {h : xH}
theorem w_mNum {x : Int32} {Q : Int32 → xH → Prop} (no : ¬ isN x → Q 0 h) (yes : isN x → Q 1 h) : p_M_isNumber x.toUInt32 h Q := by
  have hx := x.toUInt32.toNat_lt
  have n1 : FP.Core.val32 4286578687 ≠ .nan := by decide +kernel
  have n2 : FP.Core.val32 2139095039 ≠ .nan := by decide +kernel
  have k1 : FP.Core.fkey 4286578687 = -2139095039 := by decide +kernel
  have k2 : FP.Core.fkey 2139095039 = 2139095039 := by decide +kernel
  unfold p_M_isNumber
  by_cases c : FP.Core.val32 x.toUInt32 = .nan
  · have f : FP.fcmp x.toUInt32 4286578687 = none := (FP.Core.fcmp_none _ _).mpr (Or.inl c)
    have ni : ¬ isN x := fun z => by rw [v_x x z] at c; exact FP.Core.Datum.noConfusion c
    rw [f]
    exact ⟨fun _ => no ni, fun z => absurd (by decide) z⟩
  · have le := (FP.Core.ne_nan32 _).mp c
    rw [cvk c n1, cvk c n2, k1, k2, t3_lt, t3_gt]
    have e : isN x ↔ x.toUInt32.toNat % 2147483648 < 2139095040 := by unfold isN; omega
    have kx : FP.Core.fkey x.toUInt32 = if 2147483648 ≤ x.toUInt32.toNat then (2147483648 : Int) - (x.toUInt32.toNat : Int) else (x.toUInt32.toNat : Int) := rfl
    rw [kx]
    by_cases s : 2147483648 ≤ x.toUInt32.toNat
    · rw [if_pos s]
      exact ⟨fun y => no (fun z => by have := e.mp z; omega), fun y => ⟨fun w => by omega, fun _ => yes (e.mpr (by omega))⟩⟩
    · rw [if_neg s]
      exact ⟨fun y => by omega, fun _ => ⟨fun w => no (fun z => by have := e.mp z; omega), fun w => yes (e.mpr (by omega))⟩⟩
theorem w_bits {u : UInt32} (n : FP.Core.val32 u ≠ .nan) {Q : Int32 → xH → Prop} (q : Q u.toInt32 h) : p_M_bitsOf u h Q := by
  have z : p_M_bitsOf u.toInt32.toUInt32 h Q := w_bitsOf (Or.inl (by rw [no_num, u_i]; exact (FP.Core.ne_nan32 u).mp n)) q
  rw [u_i] at z
  exact z
theorem w_remC {x y : Int32} {Q : Int32 → xH → Prop} (bad : (¬ isN x ∨ ¬ y.toUInt32.toNat % 2147483648 ≤ 2139095040 ∨ y.toUInt32.toNat % 2147483648 = 0) → Q 2143289344 h) (good : isN x → y.toUInt32.toNat % 2147483648 ≤ 2139095040 → y.toUInt32.toNat % 2147483648 ≠ 0 → Q (FP.frem x.toUInt32 y.toUInt32).toInt32 h) : p_Fl_remainderBits x y h Q := by
  have hy := y.toUInt32.toNat_lt
  unfold p_Fl_remainderBits
  refine w_isNum (fun no => ⟨fun _ => bad (Or.inl no), fun z => absurd rfl z⟩) (fun nx => ⟨fun z => absurd z (by decide), fun _ => ?_⟩)
  unfold p_Fl_isNoNumber
  rw [no_num]
  refine ⟨fun ok => ⟨fun z => absurd rfl z, fun _ => ?_⟩, fun nok => ⟨fun _ => bad (Or.inr (Or.inl nok)), fun z => absurd z (by decide)⟩⟩
  have z0 : y &&& (2147483647 : Int32) = 0 ↔ y.toUInt32.toNat % 2147483648 = 0 := by
    rw [x_m]; exact nI_inj (b := 0) (by omega) (by omega)
  rw [z0]
  refine ⟨fun nz => w_isNum (fun ni => ⟨fun _ => ?_, fun z => absurd rfl z⟩) (fun ny => ⟨fun z => absurd z (by decide), fun _ => ?_⟩), fun z => bad (Or.inr (Or.inr z))⟩
  · have g := good nx ok nz
    have inf : ∃ t, FP.Core.val32 y.toUInt32 = .inf t := by
      show ∃ t, FP.Core.decode FP.Core.b32 y.toUInt32.toNat = .inf t
      unfold isN at ni
      rw [v_bits _ hy, if_pos (by omega), if_pos (by omega)]
      exact ⟨_, rfl⟩
    obtain ⟨t, et⟩ := inf
    rw [rem_id nx (by rw [et, v_x x nx]; rfl)] at g
    exact g
  · have y0 : mN y ≠ 0 := by
      unfold mN
      by_cases c : y.toUInt32.toNat / 8388608 % 256 = 0
      · rw [if_pos c]; omega
      · rw [if_neg c]; omega
    have g := good nx ok nz
    refine w_sizeR nx ny y0 (fun c => ?_) (fun c => ?_)
    · rw [rem_hi nx ny y0 c]; exact g
    · rw [rem_lo nx ny y0 c] at g
      rw [x_split]; exact g
def mrm (f : UInt32) (y : Int32) (h : xH) (G : Int32 → xH → Prop) : Prop := p_M_single y h (fun (v15 : UInt32) (h14 : xH) => p_M_isNumber f h14 (fun (v17 : Int32) (h16 : xH) => ((v17 = 0 → G (2143289344 : Int32) h16) ∧ (¬ v17 = 0 → ((¬ (Op.cmpValue (FP.fcmp v15 v15) (.l : CmpOp)) = 0 → G (2143289344 : Int32) h16) ∧ ((Op.cmpValue (FP.fcmp v15 v15) (.l : CmpOp)) = 0 → ((¬ (Op.cmpValue (FP.fcmp v15 (0 : UInt32)) (.l : CmpOp)) = 0 → (vf_n32 (FP.frem f v15)) ∧ p_M_bitsOf (FP.frem f v15) h16 (fun (v23 : Int32) (h22 : xH) => G v23 h22)) ∧ ((Op.cmpValue (FP.fcmp v15 (0 : UInt32)) (.l : CmpOp)) = 0 → G (2143289344 : Int32) h16))))))))
/-- promise 45 -/
theorem o_remainder (H : Ok L xs h) (r x y : Int32) {F : Int32 → xH → Prop} (hF : Nx L xs (p_M_remainder (12, 0) r x y) F) : p_T_remainder (11, 0) r x y h F := by
  obtain ⟨nr, nt, i⟩ := H
  have hnr := i.vc.1
  have e0 : (0 : Int32).toInt = 0 := rfl
  unfold p_T_remainder
  refine ⟨rfl, w_findRace i (fun hno => ⟨fun _ => hF _ _ i.vs (fun G hG => ?_), fun z => absurd rfl z⟩) (fun j hj e => ⟨fun z => absurd z (nz 5 j), fun _ => ?_⟩)⟩
  · unfold p_M_remainder
    exact ⟨rfl, w_isRace i.md (fun _ => ⟨fun z => absurd rfl z, fun _ => hG h ⟨nr, nt, i⟩⟩) (fun j hj e => absurd e (hno j hj))⟩
  · subst e
    obtain ⟨c, c1, c2, c3, c4⟩ := i.vl.1 j hj
    have sr := i.sr.1 j hj
    have no : ¬ (0 ≤ x.toInt ∧ x.toInt < c) → p_T_isLap_j12 (11, 0) h (fun (v6 : Int32) (h5 : xH) => ((¬ v6 = 0 → (kd ((6, j) : xN).1 = (1, 4)) ∧ (kd (hR h5 (6, j) 4).1 = (2, 0)) ∧ (vp_in x (hS h5 (hR h5 (6, j) 4) - 1)) ∧ p_Fl_remainderBits (hI h5 (hR h5 (6, j) 4) x.toNatClampNeg) y h5 (fun (v12 : Int32) (h11 : xH) => F v12 h11)) ∧ (v6 = 0 → F (0 : Int32) h5))) := by
      intro cc
      unfold p_T_isLap_j12
      refine ⟨rfl, w_found i.x (k := 2) (by omega) ⟨fun z => absurd rfl z, fun _ => fin_find0 (k := 2) i (by omega) (by omega) hF (fun G g => ?_)⟩⟩
      have d := i.md.fr (fd_sm h 2)
      unfold p_M_remainder
      refine ⟨rfl, w_isRace d (fun c => absurd rfl (c j hj)) (fun j' _ _ => ⟨fun _ => ?_, fun z => absurd z (by decide)⟩)⟩
      rw [mR64 d.1, mS64 d.1, cl_n (by omega), KC_m (fd_sm h 2) _ _ (by omega), c3]
      refine ⟨rfl, in_n (by omega) (by omega), w_in (fun _ => ⟨fun z => absurd rfl z, fun _ => g⟩) (fun c5 => ?_)⟩
      rw [sub1 (by omega), e0] at c5
      exact absurd ⟨c5.1, by omega⟩ cc
    unfold p_T_isLap
    rw [c2]
    refine ⟨fun c5 => no (by rw [ti_lt, e0] at c5; omega), fun c5 => ⟨rfl, fun c6 => ⟨fun _ => ?_, fun z => absurd z (by decide)⟩, fun c6 => no (by rw [ti_lt, ti_n (by omega)] at c6; omega)⟩⟩
    obtain ⟨k, hk, rfl⟩ := arg_lt c5 c6 (by omega)
    rw [sr.2.2.2.2.1, sr.2.2.2.2.2.2.2.2.2.1, cl_n (by omega), (c4 k hk).1]
    have model : ∀ (a : Int32), (∀ G : Int32 → xH → Prop, (∀ h2, Ok L xs h2 → G a h2) → mrm (hI h (99, 0) (12 * j + k)).toUInt32 y h G) → F a h := fun a m => hF _ _ i.vs (fun G hG => by
      unfold p_M_remainder
      refine ⟨rfl, w_isRace i.md (fun c => absurd rfl (c j hj)) (fun j' _ _ => ⟨fun _ => ?_, fun z => absurd z (by decide)⟩)⟩
      rw [mR64 i.m, mS64 i.m, cl_n (by omega), c3]
      refine ⟨rfl, in_n (by omega) (by omega), w_in (fun c7 => ?_) (fun _ => ⟨fun _ => ?_, fun z => absurd z (by decide)⟩)⟩
      · rw [sub1 (by omega), e0, ti_n (by omega)] at c7
        omega
      · rw [mR65 i.m, mS65 i.m, ix12, cl_n (by omega)]
        refine ⟨rfl, in_n (by omega) (by omega), fun v12 e12 => ?_⟩
        subst e12
        exact m G hG)
    generalize hI h (99, 0) (12 * j + k) = lap at model
    have n0 : FP.Core.val32 0 ≠ .nan := by decide +kernel
    have k0 : FP.Core.fkey 0 = 0 := by decide +kernel
    have hy := y.toUInt32.toNat_lt
    refine ⟨rfl, rfl, in_n (by omega) (by omega), w_remC (fun bad => model _ (fun G hG => w_single (w_mNum (fun _ => ⟨fun _ => hG h ⟨nr, nt, i⟩, fun z => absurd rfl z⟩) (fun nx => ⟨fun z => absurd z (by decide), fun _ => ?_⟩)))) (fun nx ok nz => model _ (fun G hG => w_single (w_mNum (fun nn => absurd nx nn) (fun _ => ⟨fun z => absurd z (by decide), fun _ => ?_⟩))))⟩
    · refine ⟨fun _ => hG h ⟨nr, nt, i⟩, fun c => ?_⟩
      by_cases ok : (y &&& (2147483647 : Int32)) ≤ (2139095040 : Int32)
      · rw [if_pos ok]
        have ok' := (no_num y).mp ok
        have ny : FP.Core.val32 y.toUInt32 ≠ .nan := (FP.Core.ne_nan32 _).mpr ok'
        have yz : y.toUInt32.toNat % 2147483648 = 0 := by
          rcases bad with b | b | b
          · exact absurd nx b
          · exact absurd ok' b
          · exact b
        rw [cvk ny n0, k0, t3_eq]
        refine ⟨fun z => absurd ?_ z, fun _ => hG h ⟨nr, nt, i⟩⟩
        unfold FP.Core.fkey
        by_cases s : 2 ^ 31 ≤ y.toUInt32.toNat
        · rw [if_pos s]; omega
        · rw [if_neg s]; omega
      · rw [if_neg ok] at c
        exact absurd c (by decide +kernel)
    · have okI := (no_num y).mpr ok
      have ny : FP.Core.val32 y.toUInt32 ≠ .nan := (FP.Core.ne_nan32 _).mpr ok
      rw [if_pos okI, cvk ny ny, t3_eq, cvk ny n0, k0, t3_eq]
      refine ⟨fun z => absurd rfl z, fun _ => ⟨fun _ => ?_, fun z => ?_⟩⟩
      · have fn : FP.Core.val32 (FP.frem lap.toUInt32 y.toUInt32) ≠ .nan := (FP.Core.notNaN_iff32 _).mp (FP.Core.frem_out ((isN_fin lap).mp nx) ((FP.Core.notNaN_iff32 _).mpr ny) (fun z => nz ((FP.Core.zero_bits232 _).mp z)))
        exact ⟨n32 fn, w_bits fn (hG h ⟨nr, nt, i⟩)⟩
      · unfold FP.Core.fkey at z
        by_cases s : 2 ^ 31 ≤ y.toUInt32.toNat
        · rw [if_pos s] at z; omega
        · rw [if_neg s] at z; omega
end Fl6
