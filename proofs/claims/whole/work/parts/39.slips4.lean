section Slips4
variable {L : Nat} {xs : Nat → Int32} {nr nt : Nat} {h : xH}
theorem le_nn {a b : Nat} (ha : a < 2147483648) (hb : b < 2147483648) : nI a ≤ nI b ↔ a ≤ b := by rw [ti_le, ti_n ha, ti_n hb]; omega
theorem b16 : ∀ i, i < 32 → ¬ i < 16 → (65535#32).getLsbD i = false := by decide
theorem note_bits (x : Int64) {s : Nat} (hs : s = 0 ∨ s = 16 ∨ s = 32 ∨ s = 48) : (((x.toUInt64 >>> ((nI s).toInt64.toUInt64 &&& Int64.toUInt64 63)).toInt64).toInt32) &&& 65535 = ((x >>> ((nI s).toInt64 &&& 63)) &&& (65535 : Int64)).toInt32 := by
  have hx : x = ⟨⟨x.toBitVec⟩⟩ := rfl
  rcases hs with rfl | rfl | rfl | rfl
  · have a : ((nI 0).toInt64.toUInt64 &&& Int64.toUInt64 63) = 0 := by decide
    have b : ((nI 0).toInt64 &&& 63) = 0 := by decide
    rw [a, b]
    apply Int32.toBitVec_inj.mp
    apply BitVec.eq_of_getLsbD_eq
    intro i hi
    simp
  · have a : ((nI 16).toInt64.toUInt64 &&& Int64.toUInt64 63) = 16 := by decide
    have b : ((nI 16).toInt64 &&& 63) = 16 := by decide
    rw [a, b]
    apply Int32.toBitVec_inj.mp
    apply BitVec.eq_of_getLsbD_eq
    intro i hi
    simp
    by_cases h16 : i < 16
    · simp only [BitVec.getLsbD_signExtend, BitVec.getLsbD_ushiftRight, BitVec.getLsbD_sshiftRight, hi, decide_true, Bool.true_and, show i < 64 by omega, ↓reduceIte, show ¬ 64 ≤ i by omega, decide_false, Bool.not_false, show 16 + i < 64 by omega]
    · rw [b16 i hi h16]; simp
  · have a : ((nI 32).toInt64.toUInt64 &&& Int64.toUInt64 63) = 32 := by decide
    have b : ((nI 32).toInt64 &&& 63) = 32 := by decide
    rw [a, b]
    apply Int32.toBitVec_inj.mp
    apply BitVec.eq_of_getLsbD_eq
    intro i hi
    simp
    by_cases h16 : i < 16
    · simp only [BitVec.getLsbD_signExtend, BitVec.getLsbD_ushiftRight, BitVec.getLsbD_sshiftRight, hi, decide_true, Bool.true_and, show i < 64 by omega, ↓reduceIte, show ¬ 64 ≤ i by omega, decide_false, Bool.not_false, show 32 + i < 64 by omega]
    · rw [b16 i hi h16]; simp
  · have a : ((nI 48).toInt64.toUInt64 &&& Int64.toUInt64 63) = 48 := by decide
    have b : ((nI 48).toInt64 &&& 63) = 48 := by decide
    rw [a, b]
    apply Int32.toBitVec_inj.mp
    apply BitVec.eq_of_getLsbD_eq
    intro i hi
    simp
    by_cases h16 : i < 16
    · simp only [BitVec.getLsbD_signExtend, BitVec.getLsbD_ushiftRight, BitVec.getLsbD_sshiftRight, hi, decide_true, Bool.true_and, show i < 64 by omega, ↓reduceIte, show ¬ 64 ≤ i by omega, decide_false, Bool.not_false, show 48 + i < 64 by omega]
    · rw [b16 i hi h16]; simp
theorem w_fill {n : xN} (hk : kd n.1 = (2, 0)) {z : Nat} (hz : hS h n = z + 1) (hz2 : z < 1000) {v : Int32} {Q : xH → Prop} (q : ∀ h1, Sm (fun m _ => m = n) h h1 → (∀ k, k < z → hI h1 n k = v) → Q h1) : p_Ja_fill n v h Q := by
  unfold p_Ja_fill
  refine ⟨hk, fun v2 hv => ⟨z + 1, ?_⟩⟩
  have e2 : v2 = nI z := by rw [hv, hz]; rfl
  subst e2
  have key : ∀ (m a : Nat) (h' : xH), a + m = z → Sm (fun m _ => m = n) h h' → (∀ k, k < a → hI h' n k = v) → p_Ja_fill_L5 n v (nI z) (fun h => Q h) Q (m + 1) (nI a) h' := by
    intro m
    induction m with
    | zero =>
      intro a h' ha s1 f
      unfold p_Ja_fill_L5
      refine ⟨fun _ => q h' s1 (fun k hk => f k (by omega)), fun c => absurd ?_ c⟩
      rw [le_nn (by omega) (by omega)]; omega
    | succ m ih =>
      intro a h' ha s1 f
      unfold p_Ja_fill_L5
      refine ⟨fun c => ?_, fun _ => ⟨hk, ?_, fun h1 e1 w hw => ?_⟩⟩
      · rw [le_nn (by omega) (by omega)] at c; omega
      · rw [s1.2.1, hz]; exact in_n (by omega) (by omega)
      · rw [hw, nI_1]
        rw [cl_n (by omega)] at e1
        refine ih (a + 1) h1 (by omega) (by rw [e1]; exact s1.si _ rfl) (fun k hk => ?_)
        rw [e1, hI_sI]
        by_cases ek : k = a
        · simp [ek]
        · rw [if_neg (by simp [ek])]; exact f k (by omega)
  exact key z 0 h (by omega) (Sm.rf _ h) (fun k hk => by omega)
theorem VW_new (i : Inv L xs nr nt h) {h2 : xH} {s0 : Nat} (s2 : Sm (KS s0) h h2) (sl : SlOK (hI h2) nt s0) : VW (hI h2) nt :=
  VW_sl (fun _ _ => s2.1 _ _ (by simp [KS])) (fun _ _ => s2.1 _ _ (by simp [KS])) (fun _ _ => s2.1 _ _ (by simp [KS])) (fun s hs z => by
    by_cases es : s = s0
    · rw [es]; exact sl
    · exact oth es (fun n q hn => s2.1 n q hn) z) i.vw
/-- promise 28 -/
theorem o_coins (H : Ok L xs h) (x y n : Int32) {F : Int32 → xH → Prop} (hF : Nx L xs (p_M_coins (12, 0) x y n) F) : p_T_coins (11, 0) x y n h F := by
  obtain ⟨nr, nt, i⟩ := H
  have e0 : (0 : Int32).toInt = 0 := rfl
  have e8 : (8 : Int32).toInt = 8 := rfl
  unfold p_T_coins
  refine w_isWindow (fun c => ⟨fun z => absurd rfl z, fun _ => hF _ _ i.vs (fun G hG => ?_)⟩) (fun w hw e => ⟨fun _ => ⟨fun c8 => ⟨rfl, w_refuseSlip i (fun c => absurd e (c w hw)) (fun w2 hw2 e2 => ?_)⟩, fun c8 => hF _ _ i.vs (fun G hG => ?_)⟩, fun z => absurd z (by decide)⟩)
  · unfold p_M_coins
    exact w_mWindow (fun _ => ⟨fun z => absurd rfl z, fun _ => hG h ⟨nr, nt, i⟩⟩) (fun w hw e => absurd e (c w hw))
  · subst e
    rw [nI_inj (by omega) (by omega)] at e2
    subst e2
    by_cases k0 : lkS (hI h) w y = 0
    · rw [k0]
      obtain ⟨n', j, n1, n2, ey, -, -, -, sl⟩ := lkS_0 i hw k0
      subst ey
      obtain ⟨r1, r2, r3, r4, r5, r6, r7, r8⟩ := slipR (j := j) i hw (by omega)
      refine ⟨fun _ => ⟨fun cn => ?_, fun cn => w_found i.x (k := 5) (by omega) (fin_find (k := 5) i (by omega) (by omega) hF (fun G g => ?_))⟩, fun z => absurd rfl z⟩
      · rw [show hp h 0 = h from rfl, r1, r2, cl_n (by omega), cl_n (by omega), r3, r4, r5, r6]
        obtain ⟨z, hz, rfl⟩ : ∃ z, z ≤ 8 ∧ n = nI z := by
          rw [ti_le, e8] at c8
          rw [ti_le, e0] at cn
          exact ⟨n.toInt.toNat, by omega, by rw [ti_eq, ti_n (by omega)]; omega⟩
        refine ⟨rfl, in_n (by omega) (by omega), rfl, rfl, in_n (by omega) (by omega), rfl, rfl, fun h0 q0 h1 q1 => ?_⟩
        have sK : Sm (KS (12 * w + j)) h h1 := by rw [q1, q0]; exact ((Sm.rf _ h).si _ (Or.inl rfl)).si _ (Or.inl rfl)
        have sC : Sm KC h h1 := by rw [q1, q0]; exact ((Sm.rf _ h).si _ (by simp [KC])).si _ (by simp [KC])
        rw [sK.2.2, r7]
        refine w_fill rfl (z := 8) (by rw [sK.2.1]; exact r8) (by omega) (fun h2 s2 f2 => ?_)
        have sC2 : Sm KC h h2 := sC.tr (s2.mono (fun n j e => by rw [e]; simp [KC]))
        have sK2 : Sm (KS (12 * w + j)) h h2 := sK.tr (s2.mono (fun n j e => by rw [e]; simp [KS]))
        have m : ShM (hS h2) (hR h2) := by rw [sK2.2.1, sK2.2.2]; exact i.m
        refine hF _ _ (i.vs.fr sC2 (fun n j k => k.2.2)) (fun G hG => ?_)
        unfold p_M_coins
        refine w_mWindow (fun c => absurd rfl (c w hw)) (fun w' _ _ => ⟨fun _ => ⟨fun _ => ⟨rfl, w_lacks m hw (DW_eq (KC_m sC2) (dw_of i hw)) ?_⟩, fun c => absurd c8 c⟩, fun z => absurd z (by decide)⟩)
        rw [lkS_eq (KC_m sC2), k0]
        refine ⟨fun z => absurd rfl z, fun _ => ⟨fun _ => ?_, fun c => absurd cn c⟩⟩
        unfold p_M_coins_j42
        rw [ix12]
        refine ⟨fun _ v hv => ?_, fun z => absurd (by decide) z⟩
        subst hv
        rw [mR53 m, mS53 m, cl_n (by omega)]
        refine ⟨rfl, rfl, in_n (by omega) (by omega), fun h3 q3 => ?_⟩
        have m3 : ShM (hS h3) (hR h3) := by rw [q3]; exact m
        rw [mR55 m3, mS55 m3]
        refine ⟨rfl, in_n (by omega) (by omega), fun h4 q4 => ⟨z + 1, ?_⟩⟩
        have sK4 : Sm (KS (12 * w + j)) h h4 := by rw [q4, q3]; exact (sK2.si _ (by simp [KS])).si _ (by simp [KS])
        have key : ∀ (m a : Nat) (h' : xH), a + m = z → Sm (fun n q => n = (91, 0) ∧ 8 * (12 * w + j) ≤ q ∧ q < 8 * (12 * w + j) + 8) h4 h' → (∀ k, k < a → hI h' (91, 0) (8 * (12 * w + j) + k) = 0) → p_M_coins_L83 (12, 0) (nI z) (nI (12 * w + j)) (fun h29 => G (nI z) h29) G (m + 1) (nI a) h' := by
          intro m
          induction m with
          | zero =>
            intro a h' ha s1 f
            unfold p_M_coins_L83
            refine ⟨fun _ => ?_, fun c => absurd (by rw [le_nn (by omega) (by omega)]; omega) c⟩
            have sK5 : Sm (KS (12 * w + j)) h h' := sK4.tr (s1.mono (fun n q e => by simp [KS, e]))
            refine hG h' ⟨nr, nt, i.updW sK5 (VW_new i sK5 ?_)⟩
            have f9 : ∀ k, hI h' (9, 12 * w + j) k = hI h1 (9, 12 * w + j) k := fun k => by
              rw [s1.1 _ _ (by simp), q4, q3, hI_sI, hI_sI, if_neg (by simp), if_neg (by simp), s2.1 _ _ (by simp)]
            have f26 : ∀ k, k < 8 → hI h' (26, 12 * w + j) k = 0 := fun k hk => by
              rw [s1.1 _ _ (by simp), q4, q3, hI_sI, hI_sI, if_neg (by simp), if_neg (by simp)]
              exact f2 k hk
            have f87 : hI h' (87, 0) (12 * w + j) = 3 := by rw [s1.1 _ _ (by simp), q4, q3]; simp [hI_sI]
            have f89 : hI h' (89, 0) (12 * w + j) = nI z := by rw [s1.1 _ _ (by simp), q4, q3]; simp [hI_sI]
            refine ⟨by rw [f9, f87, q1, q0]; simp [hI_sI], Or.inr (Or.inr (Or.inr ⟨f87, z, hz, by rw [f9, q1, q0]; simp [hI_sI], f89, fun k hk => ?_⟩))⟩
            rw [f26 k (by omega), f k (by omega)]
          | succ m ih =>
            intro a h' ha s1 f
            unfold p_M_coins_L83
            have m' : ShM (hS h') (hR h') := by rw [s1.2.1, s1.2.2, sK4.2.1, sK4.2.2]; exact i.m
            rw [mR57 m', mS57 m', ix8, cl_n (by omega)]
            refine ⟨fun c => by rw [le_nn (by omega) (by omega)] at c; omega, fun _ => ⟨rfl, rfl, in_n (by omega) (by omega), fun h5 e5 v hv => ?_⟩⟩
            rw [hv, nI_1]
            refine ih (a + 1) h5 (by omega) (by rw [e5]; exact s1.si _ ⟨rfl, by omega, by omega⟩) (fun k hk => ?_)
            rw [e5, hI_sI]
            by_cases ek : k = a
            · simp [ek]
            · rw [if_neg (by simp [ek])]; exact f k (by omega)
        exact key z 0 h4 (by omega) (Sm.rf _ h4) (fun k hk => by omega)
      · unfold p_M_coins
        refine w_mWindow (fun c => absurd rfl (c w hw)) (fun w' _ _ => ⟨fun _ => ⟨fun _ => ⟨rfl, w_lacks (h := fd h 5) i.m hw (DW_eq (KC_m (fd_sm h _)) (dw_of i hw)) ?_⟩, fun c => absurd c8 c⟩, fun z => absurd z (by decide)⟩)
        rw [lkS_eq (KC_m (fd_sm h _)), k0]
        refine ⟨fun z => absurd rfl z, fun _ => ⟨fun c => absurd c cn, fun _ => ?_⟩⟩
        unfold p_M_coins_j42
        exact ⟨fun z => absurd z (by decide), fun _ => ⟨rfl, g⟩⟩
    · refine ⟨fun z => absurd ((cd_0 (lkS_lt _ _ _)).mp z) k0, fun _ => fin_find i k0 (lkS_lt _ _ _) hF (fun G g => ?_)⟩
      unfold p_M_coins
      refine w_mWindow (fun c => absurd rfl (c w hw)) (fun w' _ _ => ⟨fun _ => ⟨fun _ => ⟨rfl, w_lacks (h := fd h _) i.m hw (DW_eq (KC_m (fd_sm h _)) (dw_of i hw)) ?_⟩, fun c => absurd c8 c⟩, fun z => absurd z (by decide)⟩)
      rw [lkS_eq (KC_m (fd_sm h _))]
      refine ⟨fun _ => ?_, fun z => ?_⟩
      · unfold p_M_coins_j42
        exact ⟨fun z => absurd ((nI_le0 (lkS_lt _ _ _)).mp z) k0, fun _ => ⟨rfl, g⟩⟩
      · have := (nI_inj (b := 0) (by have := lkS_lt (hI h) w y; omega) (by omega)).mp z
        exact absurd this k0
  · unfold p_M_coins
    exact w_mWindow (fun c => absurd e (c w hw)) (fun w' _ _ => ⟨fun _ => ⟨fun c => absurd c c8, fun _ => hG h ⟨nr, nt, i⟩⟩, fun z => absurd z (by decide)⟩)
end Slips4
