theorem nz (k j : Nat) : ¬ ((k + 1, j) : xN).1 = 0 := Nat.succ_ne_zero k
section Race
variable {L : Nat} {xs : Nat → Int32} {nr nt : Nat} {h : xH}
theorem w_findRace (i : Inv L xs nr nt h) {r : Int32} {Q : xN → xH → Prop} (no : (∀ j, j < nr → r ≠ nI j) → Q (0, 0) h) (yes : ∀ j, j < nr → r = nI j → Q (6, j) h) : p_T_findRace (11, 0) r h Q := by
  have hc := i.vc
  unfold p_T_findRace
  refine ⟨fun c => no (fun j hj e => ?_), fun c => ⟨rfl, fun c2 => ?_, fun c2 => no (fun j hj e => ?_)⟩⟩
  · rw [e, ti_lt, ti_n (by have := hc.1; omega)] at c
    have e0 : (0 : Int32).toInt = 0 := rfl
    omega
  · rw [hc.2.2.1] at c2
    obtain ⟨j, hj, rfl⟩ := arg_lt c c2 (by have := hc.1; omega)
    rw [xR_11_0_0 i.x, xS_27_0 i.x]
    refine ⟨rfl, in_n (by have := hc.1; omega) (by have := hc.1; omega), ?_⟩
    rw [cl_n (by have := hc.1; omega), (i.sr.1 j hj).1]
    exact yes j hj rfl
  · apply c2
    rw [hc.2.2.1, e, ti_lt, ti_n (by have := hc.1; omega), ti_n (by have := hc.1; omega)]
    omega
/-- 'in' of the model -/
theorem w_in {v lo hi : Int32} {Q : Int32 → xH → Prop} (no : ¬ (lo.toInt ≤ v.toInt ∧ v.toInt ≤ hi.toInt) → Q 0 h) (yes : lo.toInt ≤ v.toInt ∧ v.toInt ≤ hi.toInt → Q 1 h) : p_M_in v lo hi h Q := by
  unfold p_M_in
  refine ⟨fun c => no ?_, fun c => ⟨fun c2 => no ?_, fun c2 => yes ?_⟩⟩ <;> simp only [ti_lt] at * <;> omega
theorem w_isRace (d : Md (hS h) (hR h) nr nt (hI h)) {r : Int32} {Q : Int32 → xH → Prop} (no : (∀ j, j < nr → r ≠ nI j) → Q 0 h) (yes : ∀ j, j < nr → r = nI j → Q 1 h) : p_M_isRace (12, 0) r h Q := by
  have hn := d.2.1
  have e0 : (0 : Int32).toInt = 0 := rfl
  have e1 : (nI nr - 1).toInt = (nr : Int) - 1 := by
    have := pk_sub_toInt (a := nr) (b := 1) (by omega) (by omega)
    exact this
  unfold p_M_isRace
  rw [d.2.2.2.1]
  refine ⟨rfl, w_in (fun c => ⟨Or.inl rfl, no (fun j hj e => ?_)⟩) (fun c => ⟨Or.inr rfl, ?_⟩)⟩
  · rw [e, ti_n (by omega), e0, e1] at c
    omega
  · rw [e0, e1] at c
    refine yes r.toInt.toNat (by omega) ?_
    rw [ti_eq, ti_n (by omega)]
    omega
theorem w_hasRunner {o : xN} (ho : kd o.1 = (1, 4)) {n : Nat} (e : hI h o 0 = nI n) (hn : n ≤ 12) {x : Int32} {Q : Int32 → xH → Prop} (no : (∀ k, 1 ≤ k → k ≤ n → x ≠ nI k) → Q 0 h) (yes : ∀ k, 1 ≤ k → k ≤ n → x = nI k → Q 1 h) : p_R_hasRunner o x h Q := by
  have e1 : (1 : Int32).toInt = 1 := rfl
  unfold p_R_hasRunner
  rw [e]
  refine ⟨fun c => no (fun k h1 h2 e => ?_), fun c => ⟨ho, fun c2 => no (fun k h1 h2 e => ?_), fun c2 => ?_⟩⟩
  · rw [e, ti_lt, ti_n (by omega), e1] at c; omega
  · rw [e, ti_lt, ti_n (by omega), ti_n (by omega)] at c2; omega
  · obtain ⟨k, a1, a2, a3⟩ := arg_le (m := 1) (n := n) c c2 (by omega) (by omega)
    exact yes k a1 a2 a3
theorem w_isOut (i : Inv L xs nr nt h) {j : Nat} (hj : j < nr) {n : Nat} (e : hI h (6, j) 0 = nI n) (hn : n ≤ 12) {x : Int32} {Q : Int32 → xH → Prop} (no : (∀ k, 1 ≤ k → k ≤ n → x ≠ nI k) → Q 0 h) (inn : ∀ k, 1 ≤ k → k ≤ n → x = nI k → hI h (38, 0) (13 * j + k) = 0 → Q 0 h) (out : ∀ k, 1 ≤ k → k ≤ n → x = nI k → hI h (38, 0) (13 * j + k) = 1 → Q 1 h) : p_R_isOut (6, j) x h Q := by
  have sr := i.sr.1 j hj
  unfold p_R_isOut
  refine ⟨rfl, w_hasRunner rfl e hn (fun c => ⟨fun _ => no c, fun z => absurd rfl z⟩) (fun k h1 h2 e2 => ⟨fun z => absurd z (by decide), fun _ => ?_⟩)⟩
  subst e2
  have vr := (i.vr.1 j hj).2.2.2 k (by omega)
  rw [sr.2.1, sr.2.2.2.2.2.2.2.1, cl_n (by omega), vr.1]
  refine ⟨rfl, in_n (by omega) (by omega), fun c => inn k h1 h2 rfl c, fun c => out k h1 h2 rfl (vr.2.1.resolve_left c)⟩
theorem w_refuseRunner (i : Inv L xs nr nt h) {j : Nat} (hj : j < nr) {n : Nat} (e : hI h (6, j) 0 = nI n) (hn : n ≤ 12) {x st : Int32} {Q : Int32 → xH → Prop} (no : (∀ k, 1 ≤ k → k ≤ n → x ≠ nI k) → Q (-3) h) (out : ∀ k, 1 ≤ k → k ≤ n → x = nI k → hI h (38, 0) (13 * j + k) = 1 → Q (-5) h) (bad : ∀ k, 1 ≤ k → k ≤ n → x = nI k → hI h (38, 0) (13 * j + k) = 0 → ¬ hI h (35, 0) j = st → Q (-6) h) (ok : ∀ k, 1 ≤ k → k ≤ n → x = nI k → hI h (38, 0) (13 * j + k) = 0 → hI h (35, 0) j = st → Q 0 h) : p_T_refuseRunner (6, j) x st h Q := by
  have vs := (i.vr.1 j hj).2.1
  unfold p_T_refuseRunner
  refine ⟨fun _ => ⟨rfl, w_hasRunner rfl e hn (fun c => ⟨fun z => absurd rfl z, fun _ => no c⟩) (fun k h1 h2 e2 => ⟨fun _ => ?_, fun z => absurd z (by decide)⟩)⟩, fun z => absurd z (nz 5 j)⟩
  exact w_isOut i hj e hn (fun c => absurd e2 (c k h1 h2)) (fun k h1 h2 e2 c => ⟨fun _ => ⟨fun b => bad k h1 h2 e2 c (fun z => b (vs.trans z)), fun b => ok k h1 h2 e2 c (vs.symm.trans b)⟩, fun z => absurd rfl z⟩) (fun k h1 h2 e2 c => ⟨fun z => absurd z (by decide), fun _ => out k h1 h2 e2 c⟩)
theorem w_isRunner (d : Md (hS h) (hR h) nr nt (hI h)) {j : Nat} (hj : j < nr) {n : Nat} (e : hI h (36, 0) j = nI n) (hn : n ≤ 12) {x : Int32} {Q : Int32 → xH → Prop} (no : (∀ k, 1 ≤ k → k ≤ n → x ≠ nI k) → Q 0 h) (yes : ∀ k, 1 ≤ k → k ≤ n → x = nI k → Q 1 h) : p_M_isRunner (12, 0) (nI j) x h Q := by
  have hn' := d.2.1
  have e1 : (1 : Int32).toInt = 1 := rfl
  unfold p_M_isRunner
  rw [mR2 d.1, mS2 d.1, cl_n (by omega), e]
  refine ⟨rfl, rfl, in_n (by omega) (by omega), w_in (fun c => ⟨Or.inl rfl, no (fun k h1 h2 e2 => ?_)⟩) (fun c => ⟨Or.inr rfl, ?_⟩)⟩
  · rw [e2, ti_n (by omega), ti_n (by omega), e1] at c; omega
  · rw [ti_n (by omega), e1] at c
    refine yes x.toInt.toNat (by omega) (by omega) ?_
    rw [ti_eq, ti_n (by omega)]; omega
theorem ix13 {j k : Nat} : (13 : Int32) * nI j + nI k = nI (13 * j + k) := ix_n 13 j k
theorem w_bars (d : Md (hS h) (hR h) nr nt (hI h)) {j : Nat} (hj : j < nr) {n : Nat} (e : hI h (36, 0) j = nI n) (hn : n ≤ 12) {x : Int32} {Q : Int32 → xH → Prop} (no : (∀ k, 1 ≤ k → k ≤ n → x ≠ nI k) → Q (-3) h) (out : ∀ k, 1 ≤ k → k ≤ n → x = nI k → hI h (38, 0) (13 * j + k) = 1 → Q (-5) h) (ok : ∀ k, 1 ≤ k → k ≤ n → x = nI k → hI h (38, 0) (13 * j + k) = 0 → Q 0 h) : p_M_bars (12, 0) (nI j) x h Q := by
  have hn' := d.2.1
  unfold p_M_bars
  refine ⟨rfl, w_isRace d (fun c => absurd rfl (c j hj)) (fun j' hj' e' => ⟨fun _ => ?_, fun z => absurd z (by decide)⟩)⟩
  refine w_isRunner d hj e hn (fun c => ⟨fun z => absurd rfl z, fun _ => no c⟩) (fun k h1 h2 e2 => ⟨fun _ => ?_, fun z => absurd z (by decide)⟩)
  subst e2
  rw [mR4 d.1, mS4 d.1, ix13, cl_n (by omega)]
  refine ⟨rfl, in_n (by omega) (by omega), fun c => ok k h1 h2 rfl c, fun c => out k h1 h2 rfl (((d.2.2.2.2.2.1 j hj).2.2 k (by omega)).1.resolve_left c)⟩
theorem w_barsNo (d : Md (hS h) (hR h) nr nt (hI h)) {r x : Int32} (hno : ∀ j, j < nr → r ≠ nI j) {Q : Int32 → xH → Prop} (q : Q (-2) h) : p_M_bars (12, 0) r x h Q := by
  unfold p_M_bars
  exact ⟨rfl, w_isRace d (fun _ => ⟨fun z => absurd rfl z, fun _ => q⟩) (fun j hj e => absurd e (hno j hj))⟩
/-- how many are not out -/
theorem w_running (d : ShM (hS h) (hR h)) {j : Nat} (hj : j < 12) {n : Nat} (e : hI h (36, 0) j = nI n) (hn : n ≤ 12) {Q : Int32 → xH → Prop} (q : Q (nI (cn (fun k => decide (hI h (38, 0) (13 * j + (k + 1)) = 0)) n)) h) : p_M_running (12, 0) (nI j) h Q := by
  unfold p_M_running
  have key : ∀ (m a : Nat), a + m = n → p_M_running_L4 (12, 0) (nI j) (fun x h => Q x h) Q (m + 1) (nI (cn (fun k => decide (hI h (38, 0) (13 * j + (k + 1)) = 0)) a)) (nI (a + 1)) h := by
    intro m
    induction m with
    | zero =>
      intro a ha
      unfold p_M_running_L4
      rw [mR2 d, mS2 d, cl_n (by omega), e]
      refine ⟨rfl, rfl, in_n (by omega) (by omega), fun _ => ?_, fun c => absurd ?_ c⟩
      · rw [show a = n by omega]; exact q
      · rw [ti_lt, ti_n (by omega), ti_n (by omega)]; omega
    | succ m ih =>
      intro a ha
      unfold p_M_running_L4
      rw [mR2 d, mS2 d, mR4 d, mS4 d, cl_n (by omega), e, ix13, cl_n (by omega)]
      refine ⟨rfl, rfl, in_n (by omega) (by omega), fun c => absurd c ?_, fun _ => ⟨rfl, in_n (by omega) (by omega), fun c => ?_, fun c => ?_⟩⟩
      · rw [ti_lt, ti_n (by omega), ti_n (by omega)]; omega
      · intro v hv w hw
        have := ih (a + 1) (by omega)
        rw [show cn (fun k => decide (hI h (38, 0) (13 * j + (k + 1)) = 0)) (a + 1) = cn (fun k => decide (hI h (38, 0) (13 * j + (k + 1)) = 0)) a + 1 by rw [cn]; simp [c]] at this
        rw [hv, hw, nI_1, nI_1]
        exact this
      · intro v hv w hw
        have := ih (a + 1) (by omega)
        rw [show cn (fun k => decide (hI h (38, 0) (13 * j + (k + 1)) = 0)) (a + 1) = cn (fun k => decide (hI h (38, 0) (13 * j + (k + 1)) = 0)) a by rw [cn]; simp [c]] at this
        rw [hv, hw, nI_1, show nI (cn (fun k => decide (hI h (38, 0) (13 * j + (k + 1)) = 0)) a) + (0 : Int32) = nI (cn (fun k => decide (hI h (38, 0) (13 * j + (k + 1)) = 0)) a) from Int32.add_zero _]
        exact this
  exact ⟨n + 1, key n 0 (by omega)⟩
end Race
