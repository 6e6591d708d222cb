section Lap
variable {L : Nat} {xs : Nat → Int32} {nr nt : Nat} {h : xH}
theorem u_nat (x : Int32) : x.toUInt32.toNat = x.toBitVec.toNat := rfl
theorem mag (x : Int32) : (x &&& (2147483647 : Int32)).toInt = ((x.toUInt32.toNat % 2147483648 : Nat) : Int) := by
  have e : (x &&& (2147483647 : Int32)).toBitVec.toNat = x.toUInt32.toNat % 2147483648 := by
    rw [Int32.toBitVec_and, BitVec.toNat_and, u_nat]
    exact Nat.and_two_pow_sub_one_eq_mod x.toBitVec.toNat 31
  show (x &&& (2147483647 : Int32)).toBitVec.toInt = _
  rw [BitVec.toInt_eq_toNat_cond, e, if_pos (by omega)]
theorem no_num (x : Int32) : (x &&& (2147483647 : Int32)) ≤ (2139095040 : Int32) ↔ x.toUInt32.toNat % 2147483648 ≤ 2139095040 := by
  rw [ti_le, mag, show (2139095040 : Int32).toInt = 2139095040 from rfl]; omega
theorem dec_nan (n : Nat) : FP.Core.decode FP.Core.b32 n = .nan ↔ ¬ n % 2147483648 ≤ 2139095040 := by
  unfold FP.Core.decode
  have eE : FP.Core.fieldE FP.Core.b32 n = n / 8388608 % 256 := rfl
  have eT : FP.Core.fieldT FP.Core.b32 n = n % 8388608 := rfl
  have e5 : FP.Core.b32.exps - 1 = 255 := rfl
  rw [eE, eT, e5]
  by_cases c : n / 8388608 % 256 = 255
  · rw [if_pos c]
    by_cases c2 : n % 8388608 = 0
    · rw [if_pos c2]; simp; omega
    · rw [if_neg c2]; simp; omega
  · rw [if_neg c]
    split <;> simp <;> omega
theorem cmp_self (d : FP.Core.Datum) (hd : d ≠ .nan) : FP.Core.order d d = some .eq := by
  cases d with
  | nan => exact absurd rfl hd
  | inf s => simp [FP.Core.order]
  | fin s c q => simp [FP.Core.order]
theorem fc_self (x : Int32) : Op.cmpValue (FP.fcmp x.toUInt32 x.toUInt32) (.l : CmpOp) = 0 ↔ (x &&& (2147483647 : Int32)) ≤ (2139095040 : Int32) := by
  rw [no_num]
  show Op.cmpValue (FP.Core.order (FP.Core.decode FP.Core.b32 x.toUInt32.toNat) (FP.Core.decode FP.Core.b32 x.toUInt32.toNat)) (.l : CmpOp) = 0 ↔ _
  by_cases c : FP.Core.decode FP.Core.b32 x.toUInt32.toNat = .nan
  · have := (dec_nan _).mp c
    rw [c]
    refine ⟨fun z => ?_, fun z => absurd z this⟩
    exact absurd z (by decide)
  · rw [cmp_self _ c]
    refine ⟨fun _ => ?_, fun _ => rfl⟩
    exact Decidable.not_not.mp (fun z => c ((dec_nan _).mpr z))
theorem sn_ok {x : Int32} (hx : (x &&& (2147483647 : Int32)) ≤ (2139095040 : Int32)) : vn_sni2f x = false := by
  rw [no_num] at hx
  unfold vn_sni2f
  have e : (x.toUInt32 &&& 0x7fffffff).toNat = x.toUInt32.toNat % 2147483648 := by
    rw [UInt32.toNat_and]
    exact Nat.and_two_pow_sub_one_eq_mod x.toUInt32.toNat 31
  have : ¬ (x.toUInt32 &&& 0x7fffffff > 0x7f800000) := by
    intro z
    have z2 := UInt32.lt_iff_toNat_lt.mp z
    rw [e] at z2
    have : (0x7f800000 : UInt32).toNat = 2139095040 := rfl
    omega
  simp [this]
theorem w_single {x : Int32} {Q : UInt32 → xH → Prop} (q : Q (if (x &&& (2147483647 : Int32)) ≤ (2139095040 : Int32) then x else 2143289344).toUInt32 h) : p_M_single x h Q := by
  unfold p_M_single p_M_isNoNumber
  refine ⟨fun c => ⟨fun _ => ⟨sn_ok c, ?_⟩, fun z => absurd rfl z⟩, fun c => ⟨fun z => absurd z (by decide), fun _ => ⟨by decide, ?_⟩⟩⟩
  · rw [if_pos c] at q; exact q
  · rw [if_neg c] at q; exact q
theorem w_bitsOf {x : Int32} (hx : nnb x) {Q : Int32 → xH → Prop} (q : Q x h) : p_M_bitsOf x.toUInt32 h Q := by
  unfold p_M_bitsOf p_Jf_floatToIntBits p_Jf_isNaN
  rw [fc_self]
  refine ⟨fun c => ⟨fun _ => ⟨fun z => absurd rfl z, fun _ => q⟩, fun z => absurd c z⟩, fun c => ?_⟩
  rcases hx with hx | hx
  · exact absurd hx c
  · rw [hx] at q; exact q
theorem nnb_if (x : Int32) : nnb (if (x &&& (2147483647 : Int32)) ≤ (2139095040 : Int32) then x else 2143289344) := by
  by_cases c : (x &&& (2147483647 : Int32)) ≤ (2139095040 : Int32)
  · rw [if_pos c]; exact Or.inl c
  · rw [if_neg c]; exact Or.inr rfl
/-- promise 42 -/
theorem o_lap (H : Ok L xs h) (r x : Int32) {F : Int32 → xH → Prop} (hF : Nx L xs (p_M_lap (12, 0) r x) F) : p_T_lap (11, 0) r x h F := by
  obtain ⟨nr, nt, i⟩ := H
  have hnr := i.vc.1
  unfold p_T_lap
  refine ⟨rfl, w_findRace i (fun hno => ⟨fun z => absurd rfl z, fun _ => hF _ _ i.vs (fun G hG => ?_)⟩) (fun j hj e => ⟨fun _ => ⟨rfl, ?_⟩, fun z => absurd z (nz 5 j)⟩)⟩
  · unfold p_M_lap
    exact ⟨rfl, w_isRace i.md (fun _ => ⟨fun z => absurd rfl z, fun _ => hG h ⟨nr, nt, i⟩⟩) (fun j hj e => absurd e (hno j hj))⟩
  · subst e
    obtain ⟨c, c1, c2, c3, c4⟩ := i.vl.1 j hj
    have sr := i.sr.1 j hj
    rw [c2, sr.2.2.2.2.1]
    have lt12 : nI c < (12 : Int32) ↔ c < 12 := by
      rw [ti_lt, ti_n (by omega), show (12 : Int32).toInt = 12 from rfl]; omega
    rw [lt12]
    refine ⟨fun cl => ?_, fun cl => hF _ _ i.vs (fun G hG => ?_)⟩
    · have fin : ∀ w, w = (if (x &&& (2147483647 : Int32)) ≤ (2139095040 : Int32) then x else 2143289344) → p_T_lap_j47 w (nI c) (22, j) (6, j) h F := by
        intro w hw
        unfold p_T_lap_j47
        rw [sr.2.2.2.2.2.2.2.2.2.1, cl_n (by omega)]
        refine ⟨rfl, in_n (by omega) (by omega), fun h1 q1 => ⟨rfl, fun h2 q2 => ?_⟩⟩
        have v5 : hI h1 (6, j) 5 = nI c := by rw [q1, hI_sI, if_neg (by simp)]; exact c2
        have v6 : hI h2 (6, j) 5 = nI (c + 1) := by rw [q2, v5, nI_1, hI_sI]; simp
        rw [v6]
        have sC : Sm KC h h2 := by rw [q2, q1]; exact ((Sm.rf _ h).si _ (by simp [KC])).si _ (by simp [KC])
        have s2 : Sm (KL [((22, j), c), ((6, j), 5), ((98, 0), j), ((99, 0), 12 * j + c)]) h h2 := by rw [q2, q1]; exact ((Sm.rf _ h).si _ (by simp [KL])).si _ (by simp [KL])
        have d := i.md.fr sC
        have w22 : hI h2 (22, j) c = w := by rw [q2, q1, hI_sI, if_neg (by simp), hI_sI]; simp
        have e98 : hI h2 (98, 0) j = nI c := by rw [sC.1 _ _ (by simp [KC])]; exact c3
        refine hF _ _ (i.vs.fr sC (fun n j k => k.2.2)) (fun G hG => ?_)
        unfold p_M_lap
        refine ⟨rfl, w_isRace d (fun c => absurd rfl (c j hj)) (fun j' _ _ => ⟨fun _ => ?_, fun z => absurd z (by decide)⟩)⟩
        rw [mR64 d.1, mS64 d.1, mR65 d.1, cl_n (by omega), e98, ix12, cl_n (by omega)]
        refine ⟨rfl, in_n (by omega) (by omega), fun _ => ⟨in_n (by omega) (by omega), w_single ?_⟩, fun z => ?_⟩
        · rw [mS65 d.1, ← hw]
          refine ⟨rfl, in_n (by omega) (by omega), fun h3 q3 => ?_⟩
          have m3 : ShM (hS h3) (hR h3) := by rw [q3]; exact d.1
          rw [mR64 m3, mS64 m3, show hI h3 (98, 0) j = nI c by rw [q3, hI_sI, if_neg (by simp)]; exact e98, nI_1]
          refine ⟨rfl, in_n (by omega) (by omega), in_n (by omega) (by omega), fun h4 q4 => ?_⟩
          have m4 : ShM (hS h4) (hR h4) := by rw [q4]; exact m3
          have w98 : hI h4 (98, 0) j = nI (c + 1) := by rw [q4, hI_sI]; simp
          rw [mR64 m4, mS64 m4, w98]
          have s4 : Sm (KL [((22, j), c), ((6, j), 5), ((98, 0), j), ((99, 0), 12 * j + c)]) h h4 := by rw [q4, q3]; exact (s2.si _ (by simp [KL])).si _ (by simp [KL])
          have w99 : hI h4 (99, 0) (12 * j + c) = w := by
            rw [q4, q3, hI_sI, if_neg (by simp), hI_sI, if_pos (by simp)]; rfl
          refine ⟨rfl, in_n (by omega) (by omega), hG h4 ⟨nr, nt, i.updL s4 (vl := Or.inr ⟨fun r hr => ?_, fun r hr => ?_⟩)⟩⟩
          · by_cases er : r = j
            · subst er
              have y5 : hI h4 (6, r) 5 = nI (c + 1) := by rw [q4, q3, hI_sI, if_neg (by simp), hI_sI, if_neg (by simp)]; exact v6
              refine ⟨c + 1, by omega, y5, w98, fun k hk => ?_⟩
              by_cases ek : k = c
              · subst ek
                have y22 : hI h4 (22, r) k = w := by rw [q4, q3, hI_sI, if_neg (by simp), hI_sI, if_neg (by simp)]; exact w22
                rw [y22, w99]
                exact ⟨rfl, by rw [hw]; exact nnb_if x⟩
              · rw [s4.1 (22, r) k (by simp [KL, ek]), s4.1 (99, 0) (12 * r + k) (by simp [KL, ek])]
                exact c4 k (by omega)
            · obtain ⟨c', d1, d2, d3, d4⟩ := i.vl.1 r hr
              refine ⟨c', d1, by rw [s4.1 _ _ (by simp [KL, er])]; exact d2, by rw [s4.1 _ _ (by simp [KL, er])]; exact d3, fun k hk => ?_⟩
              rw [s4.1 (22, r) k (by simp [KL, er]), s4.1 (99, 0) (12 * r + k) (by simp [KL]; omega)]
              exact d4 k hk
          · rw [s4.1 _ _ (by simp [KL]; omega)]
            exact i.vl.2 r hr
        · have z' : nI c = nI 12 := z
          rw [nI_inj (by omega) (by omega)] at z'
          omega
      unfold p_Fl_isNoNumber
      exact ⟨fun a => ⟨fun _ => fin _ (by rw [if_pos a]), fun z => absurd rfl z⟩, fun a => ⟨fun z => absurd z (by decide), fun _ => fin _ (by rw [if_neg a])⟩⟩
    · have ec : c = 12 := by omega
      unfold p_M_lap
      refine ⟨rfl, w_isRace i.md (fun c => absurd rfl (c j hj)) (fun j' _ _ => ⟨fun _ => ?_, fun z => absurd z (by decide)⟩)⟩
      rw [mR64 i.m, mS64 i.m, cl_n (by omega), c3, ec]
      exact ⟨rfl, in_n (by omega) (by omega), fun z => absurd rfl z, fun _ => hG h ⟨nr, nt, i⟩⟩
/-- promise 43 -/
theorem o_lapAt (H : Ok L xs h) (r x : Int32) {F : Int32 → xH → Prop} (hF : Nx L xs (p_M_lapAt (12, 0) r x) F) : p_T_lapAt (11, 0) r x h F := by
  obtain ⟨nr, nt, i⟩ := H
  have hnr := i.vc.1
  have e0 : (0 : Int32).toInt = 0 := rfl
  unfold p_T_lapAt
  refine ⟨rfl, w_findRace i (fun hno => ⟨fun _ => hF _ _ i.vs (fun G hG => ?_), fun z => absurd rfl z⟩) (fun j hj e => ⟨fun z => absurd z (nz 5 j), fun _ => ?_⟩)⟩
  · unfold p_M_lapAt
    exact ⟨rfl, w_isRace i.md (fun _ => ⟨fun z => absurd rfl z, fun _ => hG h ⟨nr, nt, i⟩⟩) (fun j hj e => absurd e (hno j hj))⟩
  · subst e
    obtain ⟨c, c1, c2, c3, c4⟩ := i.vl.1 j hj
    have sr := i.sr.1 j hj
    have no : ¬ (0 ≤ x.toInt ∧ x.toInt < c) → p_T_isLap_j12 (11, 0) h (fun v6 h5 => ((¬ v6 = 0 → (kd (6, j).1 = (1, 4)) ∧ (kd (hR h5 (6, j) 4).1 = (2, 0)) ∧ (vp_in x (hS h5 (hR h5 (6, j) 4) - 1)) ∧ F (hI h5 (hR h5 (6, j) 4) x.toNatClampNeg) h5) ∧ (v6 = 0 → F (0 : Int32) h5))) := by
      intro cc
      unfold p_T_isLap_j12
      refine ⟨rfl, w_found i.x (k := 2) (by omega) ⟨fun z => absurd rfl z, fun _ => fin_find0 (k := 2) i (by omega) (by omega) hF (fun G g => ?_)⟩⟩
      have d := i.md.fr (fd_sm h 2)
      unfold p_M_lapAt
      refine ⟨rfl, w_isRace d (fun c => absurd rfl (c j hj)) (fun j' _ _ => ⟨fun _ => ?_, fun z => absurd z (by decide)⟩)⟩
      rw [mR64 d.1, mS64 d.1, cl_n (by omega), KC_m (fd_sm h 2) _ _ (by omega), c3]
      refine ⟨rfl, in_n (by omega) (by omega), w_in (fun _ => ⟨fun _ => g, fun z => absurd rfl z⟩) (fun c5 => ?_)⟩
      rw [sub1 (by omega), e0] at c5
      exact absurd ⟨c5.1, by omega⟩ cc
    unfold p_T_isLap
    rw [c2]
    refine ⟨fun c5 => no (by rw [ti_lt, e0] at c5; omega), fun c5 => ⟨rfl, fun c6 => ⟨fun _ => ?_, fun z => absurd z (by decide)⟩, fun c6 => no (by rw [ti_lt, ti_n (by omega)] at c6; omega)⟩⟩
    obtain ⟨k, hk, rfl⟩ := arg_lt c5 c6 (by omega)
    rw [sr.2.2.2.2.1, sr.2.2.2.2.2.2.2.2.2.1, cl_n (by omega), (c4 k hk).1]
    refine ⟨rfl, rfl, in_n (by omega) (by omega), hF _ _ i.vs (fun G hG => ?_)⟩
    unfold p_M_lapAt
    refine ⟨rfl, w_isRace i.md (fun c => absurd rfl (c j hj)) (fun j' _ _ => ⟨fun _ => ?_, fun z => absurd z (by decide)⟩)⟩
    rw [mR64 i.m, mS64 i.m, cl_n (by omega), c3]
    refine ⟨rfl, in_n (by omega) (by omega), w_in (fun c7 => ?_) (fun _ => ⟨fun z => absurd z (by decide), fun _ => ?_⟩)⟩
    · rw [sub1 (by omega), e0, ti_n (by omega)] at c7
      omega
    · rw [mR65 i.m, mS65 i.m, ix12, cl_n (by omega)]
      exact ⟨rfl, in_n (by omega) (by omega), w_bitsOf (c4 k hk).2 (hG h ⟨nr, nt, i⟩)⟩
end Lap
