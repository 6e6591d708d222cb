section Slips
variable {L : Nat} {xs : Nat → Int32} {nr nt : Nat} {h : xH}
theorem fin_find (i : Inv L xs nr nt h) {k : Nat} (hk0 : k ≠ 0) (hk : k < 7) {pm : xH → (Int32 → xH → Prop) → Prop} {F : Int32 → xH → Prop} (hF : Nx L xs pm F) (hm : ∀ G : Int32 → xH → Prop, p_M_meets (12, 0) (nI k) (fd h k) G → pm (fd h k) G) : F (cd k) (hp h k) := by
  unfold cd hp
  rw [if_neg hk0, if_neg hk0]
  exact hF _ _ (i.vs.fr (fd_sm h k) (fun n j k => k.2.2)) (fun G hG => hm G (w_meets (h := fd h k) i.m hk (hG _ ⟨nr, nt, i.find hk⟩)))
theorem fin_find0 (i : Inv L xs nr nt h) {k : Nat} (hk0 : k ≠ 0) (hk : k < 7) {pm : xH → (Int32 → xH → Prop) → Prop} {F : Int32 → xH → Prop} (hF : Nx L xs pm F) (hm : ∀ G : Int32 → xH → Prop, p_M_none (12, 0) (nI k) (fd h k) G → pm (fd h k) G) : F 0 (hp h k) := by
  unfold hp
  rw [if_neg hk0]
  exact hF _ _ (i.vs.fr (fd_sm h k) (fun n j k => k.2.2)) (fun G hG => hm G ⟨rfl, w_meets (h := fd h k) i.m hk (hG _ ⟨nr, nt, i.find hk⟩)⟩)
/-- the way to a slip -/
theorem slipR (i : Inv L xs nr nt h) {w j : Nat} (hw : w < 6) (hj : j < 12) : hR h (11, 0) 3 = (30, 0) ∧ hS h (30, 0) = 7 ∧ hR h (30, 0) w = (3, w) ∧ hR h (3, w) 0 = (14, w) ∧ hS h (14, w) = 13 ∧ hR h (14, w) j = (9, 12 * w + j) ∧ hR h (9, 12 * w + j) 0 = (26, 12 * w + j) ∧ hS h (26, 12 * w + j) = 9 := by
  have dw := i.d.1 w hw
  have ds := i.d.2.1 (12 * w + j) (by omega)
  exact ⟨xR_11_0_3 i.x, xS_30_0 i.x, dw.1, dw.2.1, dw.2.2.1, dw.2.2.2 j hj, ds.1, ds.2⟩
/-- promise 31 -/
theorem o_read (H : Ok L xs h) (x y : Int32) {F : Int32 → xH → Prop} (hF : Nx L xs (p_M_read (12, 0) x y) F) : p_T_read (11, 0) x y h F := by
  obtain ⟨nr, nt, i⟩ := H
  unfold p_T_read
  refine ⟨rfl, w_refuseHeld i (fun c => ⟨fun z => absurd z (by decide), fun _ => hF _ _ i.vs (fun G hG => ?_)⟩) (fun w hw e => ?_)⟩
  · unfold p_M_read
    exact w_mWindow (fun _ => ⟨fun z => absurd rfl z, fun _ => hG h ⟨nr, nt, i⟩⟩) (fun w hw e => absurd e (c w hw))
  · subst e
    by_cases k0 : lkH (hI h) w y 1 = 0
    · rw [k0]
      obtain ⟨kS, kw, kn⟩ := lkH_0 k0
      obtain ⟨n, j, n1, n2, ey, -, -, -, sl⟩ := lkS_0 i hw kS
      subst ey
      rw [cl_n (by omega)] at kw
      obtain ⟨r1, r2, r3, r4, r5, r6, r7, r8⟩ := slipR (j := j) i hw (by omega)
      refine ⟨fun _ => ?_, fun z => absurd rfl z⟩
      show _ ∧ _
      rw [show hp h 0 = h from rfl, r1, r2, cl_n (by omega), cl_n (by omega), r3, r4, r5, r6]
      refine ⟨rfl, in_n (by omega) (by omega), rfl, rfl, in_n (by omega) (by omega), rfl, hF _ _ i.vs (fun G hG => ?_)⟩
      unfold p_M_read
      refine w_mWindow (fun c => absurd rfl (c w hw)) (fun w' _ _ => ⟨fun _ => ⟨rfl, w_lacksAs i.m hw (dw_of i hw) ⟨fun _ => ?_, fun z => absurd (by rw [k0]; decide) z⟩⟩, fun z => absurd z (by decide)⟩)
      rw [mR54 i.m, mS54 i.m, ix12, cl_n (by omega)]
      refine ⟨rfl, in_n (by omega) (by omega), ?_⟩
      have e2 : hI h (9, 12 * w + j) 2 = hI h (88, 0) (12 * w + j) := by
        rcases sl.2 with q | ⟨q, q2, -⟩ | ⟨q, -⟩ | ⟨q, -⟩
        · rw [q] at kw; exact absurd kw (by decide)
        · exact q2
        · rw [q] at kw; exact absurd kw (by decide)
        · rw [q] at kw; exact absurd kw (by decide)
      rw [← e2]
      exact hG h ⟨nr, nt, i⟩
    · refine ⟨fun z => absurd ((cd_0 (lkH_lt _ _ _ _)).mp z) k0, fun _ => fin_find i k0 (lkH_lt _ _ _ _) hF (fun G g => ?_)⟩
      unfold p_M_read
      refine w_mWindow (fun c => absurd rfl (c w hw)) (fun w' _ _ => ⟨fun _ => ⟨rfl, w_lacksAs (h := fd h _) i.m hw (DW_eq (KC_m (fd_sm h _)) (dw_of i hw)) ?_⟩, fun z => absurd z (by decide)⟩)
      rw [lkH_eq (KC_m (fd_sm h _))]
      exact ⟨fun z => absurd ((nI_le0 (lkH_lt _ _ _ _)).mp z) k0, fun _ => g⟩
/-- the model's length, wherever it is asked -/
theorem hz_of (i : Inv L xs nr nt h) {h1 : xH} (s : Sm KC h h1) {w : Nat} (hw : w < 6) {y what : Int32} (hw2 : what = 2 ∨ what = 3) : lkH (hI h1) w y what = 0 → ∃ z, z ≤ 8 ∧ hI h1 (89, 0) (12 * w + y.toNatClampNeg) = nI z := by
  intro k0
  rw [lkH_eq (KC_m s)] at k0
  obtain ⟨kS, kw, kn⟩ := lkH_0 k0
  obtain ⟨n, j, n1, n2, ey, -, -, -, sl⟩ := lkS_0 i hw kS
  subst ey
  rw [cl_n (by omega)] at kw ⊢
  obtain ⟨z, z1, z2, z3⟩ := slen i sl (by rw [kw]; exact hw2)
  exact ⟨z, z1, by rw [KC_m s _ _ (by omega)]; exact z3⟩
/-- a cell that may be read -/
theorem cell_0 (i : Inv L xs nr nt h) {w : Nat} (hw : w < 6) {y what k : Int32} (hw2 : what = 2 ∨ what = 3) (k0 : lkC (hI h) w y what k = 0) : ∃ j q z, j < 12 ∧ q < z ∧ z ≤ 8 ∧ y = nI j ∧ k = nI q ∧ hI h (87, 0) (12 * w + j) = what ∧ SlOK (hI h) nt (12 * w + j) ∧ hI h (9, 12 * w + j) 3 = nI z ∧ hI h (89, 0) (12 * w + j) = nI z := by
  unfold lkC at k0
  split at k0
  · rename_i c
    obtain ⟨kS, kw, kn⟩ := lkH_0 c
    obtain ⟨n, j, n1, n2, ey, -, -, -, sl⟩ := lkS_0 i hw kS
    subst ey
    rw [cl_n (by omega)] at kw k0
    obtain ⟨z, z1, z2, z3⟩ := slen i sl (by rw [kw]; exact hw2)
    rw [z3, ti_n (by omega)] at k0
    by_cases c2 : 0 ≤ k.toInt ∧ k.toInt < z
    · refine ⟨j, k.toInt.toNat, z, by omega, by omega, z1, rfl, ?_, kw, sl, z2, z3⟩
      rw [ti_eq, ti_n (by omega)]; omega
    · rw [if_neg c2] at k0; exact absurd k0 (by decide)
  · rename_i c; exact absurd k0 c
theorem ix4 {a b : Nat} : (4 : Int32) * nI a + nI b = nI (4 * a + b) := ix_n 4 a b
theorem ix8 {a b : Nat} : (8 : Int32) * nI a + nI b = nI (8 * a + b) := ix_n 8 a b
theorem note_eq {I : xN → Nat → Int32} {s q z : Nat} (sl : SlOK I nt s) (kw : I (87, 0) s = 2) (hz : I (89, 0) s = nI z) (hz8 : z ≤ 8) (hq : q < z) : I (26, s) q = I (90, 0) (4 * s + q) ∧ z ≤ 4 := by
  rcases sl.2 with c | ⟨c, -⟩ | ⟨c, z', z1, z2, z3, z4⟩ | ⟨c, -⟩
  · rw [c] at kw; exact absurd kw (by decide)
  · rw [c] at kw; exact absurd kw (by decide)
  · have : z' = z := by rw [z3, nI_inj (by omega) (by omega)] at hz; exact hz
    subst this
    exact ⟨z4 q hq, z1⟩
  · rw [c] at kw; exact absurd kw (by decide)
theorem coin_eq {I : xN → Nat → Int32} {s q z : Nat} (sl : SlOK I nt s) (kw : I (87, 0) s = 3) (hz : I (89, 0) s = nI z) (hz8 : z ≤ 8) (hq : q < z) : I (26, s) q = I (91, 0) (8 * s + q) := by
  rcases sl.2 with c | ⟨c, -⟩ | ⟨c, -⟩ | ⟨c, z', z1, z2, z3, z4⟩
  · rw [c] at kw; exact absurd kw (by decide)
  · rw [c] at kw; exact absurd kw (by decide)
  · rw [c] at kw; exact absurd kw (by decide)
  · have : z' = z := by rw [z3, nI_inj (by omega) (by omega)] at hz; exact hz
    subst this
    exact z4 q hq
/-- promise 32 -/
theorem o_letter (H : Ok L xs h) (x y k : Int32) {F : Int32 → xH → Prop} (hF : Nx L xs (p_M_letter (12, 0) x y k) F) : p_T_letter (11, 0) x y k h F := by
  obtain ⟨nr, nt, i⟩ := H
  unfold p_T_letter
  refine ⟨rfl, w_refuseCell i (Or.inl rfl) (fun c => ⟨fun z => absurd z (by decide), fun _ => hF _ _ i.vs (fun G hG => ?_)⟩) (fun w hw e => ?_)⟩
  · unfold p_M_letter
    exact w_mWindow (fun _ => ⟨fun z => absurd rfl z, fun _ => hG h ⟨nr, nt, i⟩⟩) (fun w hw e => absurd e (c w hw))
  · subst e
    by_cases k0 : lkC (hI h) w y 2 k = 0
    · rw [k0]
      obtain ⟨j, q, z, hj, hq, hz, rfl, rfl, kw, sl, z2, z3⟩ := cell_0 i hw (Or.inl rfl) k0
      obtain ⟨r1, r2, r3, r4, r5, r6, r7, r8⟩ := slipR (j := j) i hw (by omega)
      obtain ⟨ne, nz4⟩ := note_eq sl kw z3 hz hq
      refine ⟨fun _ => ?_, fun z => absurd rfl z⟩
      show _ ∧ _
      rw [show hp h 0 = h from rfl, r1, r2, cl_n (by omega), cl_n (by omega), cl_n (by omega), r3, r4, r5, r6, r7, r8, ne]
      refine ⟨rfl, in_n (by omega) (by omega), rfl, rfl, in_n (by omega) (by omega), rfl, rfl, in_n (by omega) (by omega), hF _ _ i.vs (fun G hG => ?_)⟩
      unfold p_M_letter
      refine w_mWindow (fun c => absurd rfl (c w hw)) (fun w' _ _ => ⟨fun _ => ⟨rfl, w_lacksItem i.m hw (dw_of i hw) (hz_of i (Sm.rf _ h) hw (Or.inl rfl)) ⟨fun _ => ?_, fun z => absurd (by rw [k0]; decide) z⟩⟩, fun z => absurd z (by decide)⟩)
      rw [mR56 i.m, mS56 i.m, ix12, ix4, cl_n (by omega)]
      exact ⟨rfl, in_n (by omega) (by omega), hG h ⟨nr, nt, i⟩⟩
    · refine ⟨fun z => absurd ((cd_0 (lkC_lt _ _ _ _ _)).mp z) k0, fun _ => fin_find i k0 (lkC_lt _ _ _ _ _) hF (fun G g => ?_)⟩
      unfold p_M_letter
      refine w_mWindow (fun c => absurd rfl (c w hw)) (fun w' _ _ => ⟨fun _ => ⟨rfl, w_lacksItem (h := fd h _) i.m hw (DW_eq (KC_m (fd_sm h _)) (dw_of i hw)) (hz_of i (fd_sm h _) hw (Or.inl rfl)) ?_⟩, fun z => absurd z (by decide)⟩)
      rw [lkC_eq (KC_m (fd_sm h _))]
      exact ⟨fun z => absurd ((nI_le0 (lkC_lt _ _ _ _ _)).mp z) k0, fun _ => g⟩
/-- promise 34 -/
theorem o_coinAt (H : Ok L xs h) (x y k : Int32) {F : Int32 → xH → Prop} (hF : Nx L xs (p_M_coinAt (12, 0) x y k) F) : p_T_coinAt (11, 0) x y k h F := by
  obtain ⟨nr, nt, i⟩ := H
  unfold p_T_coinAt
  refine ⟨rfl, w_refuseCell i (Or.inr rfl) (fun c => ⟨fun z => absurd z (by decide), fun _ => hF _ _ i.vs (fun G hG => ?_)⟩) (fun w hw e => ?_)⟩
  · unfold p_M_coinAt
    exact w_mWindow (fun _ => ⟨fun z => absurd rfl z, fun _ => hG h ⟨nr, nt, i⟩⟩) (fun w hw e => absurd e (c w hw))
  · subst e
    by_cases k0 : lkC (hI h) w y 3 k = 0
    · rw [k0]
      obtain ⟨j, q, z, hj, hq, hz, rfl, rfl, kw, sl, z2, z3⟩ := cell_0 i hw (Or.inr rfl) k0
      obtain ⟨r1, r2, r3, r4, r5, r6, r7, r8⟩ := slipR (j := j) i hw (by omega)
      have ne := coin_eq sl kw z3 hz hq
      refine ⟨fun _ => ?_, fun z => absurd rfl z⟩
      show _ ∧ _
      rw [show hp h 0 = h from rfl, r1, r2, cl_n (by omega), cl_n (by omega), cl_n (by omega), r3, r4, r5, r6, r7, r8, ne]
      refine ⟨rfl, in_n (by omega) (by omega), rfl, rfl, in_n (by omega) (by omega), rfl, rfl, in_n (by omega) (by omega), hF _ _ i.vs (fun G hG => ?_)⟩
      unfold p_M_coinAt
      refine w_mWindow (fun c => absurd rfl (c w hw)) (fun w' _ _ => ⟨fun _ => ⟨rfl, w_lacksItem i.m hw (dw_of i hw) (hz_of i (Sm.rf _ h) hw (Or.inr rfl)) ⟨fun _ => ?_, fun z => absurd (by rw [k0]; decide) z⟩⟩, fun z => absurd z (by decide)⟩)
      rw [mR57 i.m, mS57 i.m, ix12, ix8, cl_n (by omega)]
      exact ⟨rfl, in_n (by omega) (by omega), hG h ⟨nr, nt, i⟩⟩
    · refine ⟨fun z => absurd ((cd_0 (lkC_lt _ _ _ _ _)).mp z) k0, fun _ => fin_find0 i k0 (lkC_lt _ _ _ _ _) hF (fun G g => ?_)⟩
      unfold p_M_coinAt
      refine w_mWindow (fun c => absurd rfl (c w hw)) (fun w' _ _ => ⟨fun _ => ⟨rfl, w_lacksItem (h := fd h _) i.m hw (DW_eq (KC_m (fd_sm h _)) (dw_of i hw)) (hz_of i (fd_sm h _) hw (Or.inr rfl)) ?_⟩, fun z => absurd z (by decide)⟩)
      rw [lkC_eq (KC_m (fd_sm h _))]
      exact ⟨fun z => absurd ((nI_le0 (lkC_lt _ _ _ _ _)).mp z) k0, fun _ => g⟩
end Slips
