section Drawer
variable {L : Nat} {xs : Nat → Int32} {nr nt : Nat} {h : xH}
/-- what a slip holds, in class and model -/
def SlOK (I : xN → Nat → Int32) (nt s : Nat) : Prop := I (9, s) 1 = I (87, 0) s ∧ ((I (87, 0) s = 0) ∨
    (I (87, 0) s = 1 ∧ I (9, s) 2 = I (88, 0) s ∧ ∃ t, t < nt ∧ I (88, 0) s = nI t) ∨
    (I (87, 0) s = 2 ∧ ∃ z, z ≤ 4 ∧ I (9, s) 3 = nI z ∧ I (89, 0) s = nI z ∧ ∀ k, k < z → I (26, s) k = I (90, 0) (4 * s + k)) ∨
    (I (87, 0) s = 3 ∧ ∃ z, z ≤ 8 ∧ I (9, s) 3 = nI z ∧ I (89, 0) s = nI z ∧ ∀ k, k < z → I (26, s) k = I (91, 0) (8 * s + k)))
def DW (I : xN → Nat → Int32) (w : Nat) : Prop := I (85, 0) w = 0 ∨ (I (85, 0) w = 1 ∧ ∃ n, n ≤ 12 ∧ I (86, 0) w = nI n)
theorem dw_of (i : Inv L xs nr nt h) {w : Nat} (hw : w < 6) : DW (hI h) w := (i.vw w hw).elim (fun z => Or.inl z.1) (fun ⟨z, n, a, b, c, _⟩ => Or.inr ⟨z, n, a, c⟩)
theorem DW_eq {I I' : xN → Nat → Int32} (e : ∀ k q, 34 ≤ k → I' (k, 0) q = I (k, 0) q) {w : Nat} (d : DW I w) : DW I' w := by
  unfold DW; rw [e 85 w (by omega), e 86 w (by omega)]; exact d
theorem lkS_0 (i : Inv L xs nr nt h) {w : Nat} (hw : w < 6) {y : Int32} (k0 : lkS (hI h) w y = 0) : ∃ n j, n ≤ 12 ∧ j < n ∧ y = nI j ∧ hI h (85, 0) w = 1 ∧ hI h (3, w) 1 = nI n ∧ hI h (86, 0) w = nI n ∧ SlOK (hI h) nt (12 * w + j) := by
  unfold lkS at k0
  rcases i.vw w hw with ⟨v1, v2⟩ | ⟨v1, n, v2, v3, v4, v5⟩
  · rw [if_pos v1] at k0; exact absurd k0 (by decide)
  · rw [if_neg (by rw [v1]; decide), v4, ti_n (by omega)] at k0
    by_cases c : 0 ≤ y.toInt ∧ y.toInt < n
    · refine ⟨n, y.toInt.toNat, v2, by omega, ?_, v1, v3, v4, v5 _ (by omega)⟩
      rw [ti_eq, ti_n (by omega)]; omega
    · rw [if_neg c] at k0; exact absurd k0 (by decide)
theorem w_refuseHeld (i : Inv L xs nr nt h) {x y what : Int32} {Q : Int32 → xH → Prop} (no : (∀ w, w < 6 → x ≠ nI w) → Q (-2) h) (yes : ∀ w, w < 6 → x = nI w → Q (cd (lkH (hI h) w y what)) (hp h (lkH (hI h) w y what))) : p_T_refuseHeld (11, 0) x y what h Q := by
  unfold p_T_refuseHeld
  refine ⟨rfl, w_refuseSlip i (fun c => ⟨fun z => absurd z (by decide), fun _ => no c⟩) (fun w hw e => ?_)⟩
  have y1 := yes w hw e
  by_cases k0 : lkS (hI h) w y = 0
  · rw [k0]
    obtain ⟨n, j, n1, n2, ey, -, -, -, sl⟩ := lkS_0 i hw k0
    subst e; subst ey
    have dw := i.d.1 w hw
    refine ⟨fun _ => ?_, fun z => absurd rfl z⟩
    show _ ∧ _
    rw [show hp h 0 = h from rfl, xR_11_0_3 i.x, xS_30_0 i.x, cl_n (by omega), cl_n (by omega), dw.1, dw.2.1, dw.2.2.1, dw.2.2.2 j (by omega), sl.1]
    have e1 : lkH (hI h) w (nI j) what = if hI h (87, 0) (12 * w + j) = 0 then 1 else if hI h (87, 0) (12 * w + j) = what then 0 else 3 := by
      unfold lkH; rw [if_pos k0, cl_n (by omega)]
    rw [e1] at y1
    refine ⟨rfl, in_n (by omega) (by omega), rfl, rfl, in_n (by omega) (by omega), rfl, fun v hv => ⟨fun c => ⟨fun c2 => ?_, fun c2 => ?_⟩, fun c => ?_⟩⟩ <;> subst hv
    · rw [if_neg c, if_neg c2] at y1; exact w_found i.x (k := 3) (by omega) y1
    · rw [if_neg c, if_pos c2] at y1; exact y1
    · rw [if_pos c] at y1; exact w_found i.x (k := 1) (by omega) y1
  · have e1 : lkH (hI h) w y what = lkS (hI h) w y := by unfold lkH; rw [if_neg k0]
    rw [e1] at y1
    exact ⟨fun z => absurd ((cd_0 (lkS_lt _ _ _)).mp z) k0, fun _ => y1⟩
theorem lkH_0 {I : xN → Nat → Int32} {w : Nat} {y what : Int32} (k0 : lkH I w y what = 0) : lkS I w y = 0 ∧ I (87, 0) (12 * w + y.toNatClampNeg) = what ∧ ¬ I (87, 0) (12 * w + y.toNatClampNeg) = 0 := by
  unfold lkH at k0
  split at k0
  · rename_i c
    split at k0
    · exact absurd k0 (by decide)
    · split at k0
      · rename_i c1 c2; exact ⟨c, c2, c1⟩
      · exact absurd k0 (by decide)
  · rename_i c; exact absurd k0 c
/-- the length of what a slip holds, if that is a note or a row -/
theorem slen (i : Inv L xs nr nt h) {s : Nat} (sl : SlOK (hI h) nt s) (c : hI h (87, 0) s = 2 ∨ hI h (87, 0) s = 3) : ∃ z, z ≤ 8 ∧ hI h (9, s) 3 = nI z ∧ hI h (89, 0) s = nI z := by
  rcases sl.2 with q | ⟨q, -⟩ | ⟨-, z, a, b, d, -⟩ | ⟨-, z, a, b, d, -⟩
  · rw [q] at c; rcases c with c | c <;> exact absurd c (by decide)
  · rw [q] at c; rcases c with c | c <;> exact absurd c (by decide)
  · exact ⟨z, by omega, b, d⟩
  · exact ⟨z, a, b, d⟩
theorem w_refuseCell (i : Inv L xs nr nt h) {x y what k : Int32} (hw2 : what = 2 ∨ what = 3) {Q : Int32 → xH → Prop} (no : (∀ w, w < 6 → x ≠ nI w) → Q (-2) h) (yes : ∀ w, w < 6 → x = nI w → Q (cd (lkC (hI h) w y what k)) (hp h (lkC (hI h) w y what k))) : p_T_refuseCell (11, 0) x y what k h Q := by
  have e0 : (0 : Int32).toInt = 0 := rfl
  unfold p_T_refuseCell
  refine ⟨rfl, w_refuseHeld i (fun c => ⟨fun z => absurd z (by decide), fun _ => no c⟩) (fun w hw e => ?_)⟩
  have y1 := yes w hw e
  by_cases k0 : lkH (hI h) w y what = 0
  · rw [k0]
    obtain ⟨kS, kw, -⟩ := lkH_0 k0
    obtain ⟨n, j, n1, n2, ey, -, -, -, sl⟩ := lkS_0 i hw kS
    subst e; subst ey
    rw [cl_n (by omega)] at kw
    obtain ⟨z, z1, z2, z3⟩ := slen i sl (by rw [kw]; exact hw2)
    have dw := i.d.1 w hw
    have e1 : lkC (hI h) w (nI j) what k = if 0 ≤ k.toInt ∧ k.toInt < z then 0 else 2 := by
      unfold lkC; rw [if_pos k0, cl_n (by omega), z3, ti_n (by omega)]
    rw [e1] at y1
    refine ⟨fun _ => ?_, fun z => absurd rfl z⟩
    show _ ∧ _
    rw [show hp h 0 = h from rfl, xR_11_0_3 i.x, xS_30_0 i.x, cl_n (by omega), cl_n (by omega), dw.1, dw.2.1, dw.2.2.1, dw.2.2.2 j (by omega), z2]
    refine ⟨fun c => ?_, fun c => ⟨rfl, in_n (by omega) (by omega), rfl, rfl, in_n (by omega) (by omega), rfl, fun c2 => ?_, fun c2 => ?_⟩⟩
    · unfold p_T_refuseCell_j41
      rw [ti_lt, e0] at c
      rw [if_neg (by omega)] at y1
      exact ⟨rfl, w_found i.x (k := 2) (by omega) y1⟩
    · rw [ti_lt, e0] at c
      rw [ti_lt, ti_n (by omega)] at c2
      rw [if_pos (by omega)] at y1
      exact y1
    · unfold p_T_refuseCell_j41
      rw [ti_lt, ti_n (by omega)] at c2
      rw [if_neg (by omega)] at y1
      exact ⟨rfl, w_found i.x (k := 2) (by omega) y1⟩
  · have e1 : lkC (hI h) w y what k = lkH (hI h) w y what := by unfold lkC; rw [if_neg k0]
    rw [e1] at y1
    exact ⟨fun z => absurd ((cd_0 (lkH_lt _ _ _ _)).mp z) k0, fun _ => y1⟩
/-- the model's side, at a heap with the same model -/
theorem nI_le0 {k : Nat} (hk : k < 7) : nI k ≤ 0 ↔ k = 0 := by
  have e0 : (0 : Int32).toInt = 0 := rfl
  rw [ti_le, ti_n (by omega), e0]; omega
theorem ix12 {j k : Nat} : (12 : Int32) * nI j + nI k = nI (12 * j + k) := ix_n 12 j k
theorem lkS_arg {I : xN → Nat → Int32} {w : Nat} (d : DW I w) {y : Int32} (k0 : lkS I w y = 0) : ∃ j, j < 12 ∧ y = nI j := by
  unfold lkS at k0
  rcases d with d | ⟨d, n, n1, n2⟩
  · rw [if_pos d] at k0; exact absurd k0 (by decide)
  · rw [if_neg (by rw [d]; decide), n2, ti_n (by omega)] at k0
    by_cases c : 0 ≤ y.toInt ∧ y.toInt < n
    · refine ⟨y.toInt.toNat, by omega, ?_⟩
      rw [ti_eq, ti_n (by omega)]; omega
    · rw [if_neg c] at k0; exact absurd k0 (by decide)
theorem w_lacksAs (m : ShM (hS h) (hR h)) {w : Nat} (hw : w < 6) (d : DW (hI h) w) {y what : Int32} {Q : Int32 → xH → Prop} (q : Q (nI (lkH (hI h) w y what)) h) : p_M_lacksAs (12, 0) (nI w) y what h Q := by
  unfold p_M_lacksAs
  refine ⟨rfl, w_lacks m hw d ⟨fun c => ?_, fun c => ?_⟩⟩
  · rw [nI_le0 (lkS_lt _ _ _)] at c
    obtain ⟨j, hj, rfl⟩ := lkS_arg d c
    have e1 : lkH (hI h) w (nI j) what = if hI h (87, 0) (12 * w + j) = 0 then 1 else if hI h (87, 0) (12 * w + j) = what then 0 else 3 := by
      unfold lkH; rw [if_pos c, cl_n (by omega)]
    rw [e1] at q
    rw [mR53 m, mS53 m, ix12, cl_n (by omega)]
    refine ⟨rfl, in_n (by omega) (by omega), fun v hv => ⟨fun c => ⟨fun c2 => ?_, fun c2 => ?_⟩, fun c => ?_⟩⟩ <;> subst hv
    · rw [if_neg c, if_neg c2] at q; exact q
    · rw [if_neg c, if_pos c2] at q; exact q
    · rw [if_pos c] at q; exact q
  · rw [nI_le0 (lkS_lt _ _ _)] at c
    have e1 : lkH (hI h) w y what = lkS (hI h) w y := by unfold lkH; rw [if_neg c]
    rw [e1] at q; exact q
theorem w_lacksItem (m : ShM (hS h) (hR h)) {w : Nat} (hw : w < 6) (d : DW (hI h) w) {y what k : Int32} (hz : lkH (hI h) w y what = 0 → ∃ z, z ≤ 8 ∧ hI h (89, 0) (12 * w + y.toNatClampNeg) = nI z) {Q : Int32 → xH → Prop} (q : Q (nI (lkC (hI h) w y what k)) h) : p_M_lacksItem (12, 0) (nI w) y what k h Q := by
  have e0 : (0 : Int32).toInt = 0 := rfl
  unfold p_M_lacksItem
  refine ⟨rfl, w_lacksAs m hw d ⟨fun c => ?_, fun c => ?_⟩⟩
  · rw [nI_le0 (lkH_lt _ _ _ _)] at c
    obtain ⟨z, z1, z2⟩ := hz c
    obtain ⟨j, hj, rfl⟩ := lkS_arg d (lkH_0 c).1
    rw [cl_n (by omega)] at z2
    have e1 : lkC (hI h) w (nI j) what k = if 0 ≤ k.toInt ∧ k.toInt < z then 0 else 2 := by
      unfold lkC; rw [if_pos c, cl_n (by omega), z2, ti_n (by omega)]
    rw [e1] at q
    rw [mR55 m, mS55 m, ix12, cl_n (by omega), z2]
    refine ⟨rfl, in_n (by omega) (by omega), w_in (fun c3 => ⟨fun _ => ?_, fun z => absurd rfl z⟩) (fun c3 => ⟨fun z => absurd z (by decide), fun _ => ?_⟩)⟩ <;> rw [sub1 (by omega), e0] at c3
    · rw [if_neg (by omega)] at q; exact q
    · rw [if_pos (by omega)] at q; exact q
  · rw [nI_le0 (lkH_lt _ _ _ _)] at c
    have e1 : lkC (hI h) w y what k = lkH (hI h) w y what := by unfold lkC; rw [if_neg c]
    rw [e1] at q; exact q
end Drawer
