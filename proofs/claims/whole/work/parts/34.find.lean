section Find
variable {L : Nat} {xs : Nat → Int32} {nr nt : Nat} {h : xH}
def fd (h : xH) (k : Nat) : xH := sI (sI h (11, 0) 15 (nI k)) (33, 0) k (hI h (33, 0) k + 1)
def fm (h : xH) (k : Nat) : xH := sI (sI h (12, 0) 49 (nI k)) (84, 0) k (hI h (84, 0) k + 1)
theorem fd_sm (h : xH) (k : Nat) : Sm KC h (fd h k) := ((Sm.rf _ h).si _ (by simp [KC])).si _ (by simp [KC])
theorem fd_sl (h : xH) (k : Nat) : Sm (KL [((11, 0), 15), ((33, 0), k), ((12, 0), 49), ((84, 0), k)]) h (fd h k) := ((Sm.rf _ h).si _ (by simp [KL])).si _ (by simp [KL])
theorem fm_sl (h : xH) (k : Nat) : Sm (KL [((11, 0), 15), ((33, 0), k), ((12, 0), 49), ((84, 0), k)]) h (fm (fd h k) k) := ((fd_sl h k).si _ (by simp [KL])).si _ (by simp [KL])
theorem w_found (x : ShX (hS h) (hR h)) {k : Nat} (hk : k < 7) {Q : Int32 → xH → Prop} (q : Q ((-10 : Int32) - nI k) (fd h k)) : p_T_found (11, 0) (nI k) h Q := by
  unfold p_T_found
  refine ⟨rfl, fun h2 e2 => ?_⟩
  subst e2
  rw [hR_sI, xR_11_0_9 x, hS_sI, xS_33_0 x, cl_n (by omega)]
  refine ⟨rfl, in_n (by omega) (by omega), in_n (by omega) (by omega), fun h3 e3 => ?_⟩
  subst e3
  rw [hI_sI, if_neg (by simp)]
  exact q
theorem w_meets (m : ShM (hS h) (hR h)) {k : Nat} (hk : k < 7) {Q : Int32 → xH → Prop} (q : Q ((-10 : Int32) - nI k) (fm h k)) : p_M_meets (12, 0) (nI k) h Q := by
  unfold p_M_meets
  refine ⟨rfl, fun h2 e2 => ?_⟩
  subst e2
  rw [hR_sI, mR50 m, hS_sI, mS50 m, cl_n (by omega)]
  refine ⟨rfl, in_n (by omega) (by omega), in_n (by omega) (by omega), fun h3 e3 => ?_⟩
  subst e3
  rw [hI_sI, if_neg (by simp)]
  exact q
theorem Inv.find (i : Inv L xs nr nt h) {k : Nat} (hk : k < 7) : Inv L xs nr nt (fm (fd h k) k) := by
  refine i.updL (fm_sl h k) (vn := Or.inr ?_)
  have v := i.vn
  have e : hI (fd h k) (84, 0) k = hI h (84, 0) k := (fd_sm h k).1 _ _ (by simp [KC])
  refine ⟨?_, ?_, ?_, ?_, fun f hf => ?_⟩
  · rw [(fm_sl h k).1 _ _ (by simp [KL]), (fm_sl h k).1 _ _ (by simp [KL])]; exact v.1
  · rw [(fm_sl h k).1 _ _ (by simp [KL]), (fm_sl h k).1 _ _ (by simp [KL])]; exact v.2.1
  · rw [(fm_sl h k).1 _ _ (by simp [KL]), (fm_sl h k).1 _ _ (by simp [KL])]; exact v.2.2.1
  · simp [fm, fd, hI_sI]
  · unfold fm
    rw [e]
    unfold fd
    simp only [hI_sI, Prod.mk.injEq]
    have vf := v.2.2.2.2 f hf
    by_cases ef : f = k
    · subst ef; simp [vf]
    · simp [ef, vf]
/-- a refusal by a finding: its number (0: none), answer and heap -/
def cd (k : Nat) : Int32 := if k = 0 then 0 else (-10 : Int32) - nI k
def hp (h : xH) (k : Nat) : xH := if k = 0 then h else fd h k
theorem cd_0 {k : Nat} (hk : k < 7) : cd k = 0 ↔ k = 0 := by
  rcases (show k = 0 ∨ k = 1 ∨ k = 2 ∨ k = 3 ∨ k = 4 ∨ k = 5 ∨ k = 6 by omega) with rfl | rfl | rfl | rfl | rfl | rfl | rfl <;> decide
theorem hp_sm (h : xH) (k : Nat) : Sm KC h (hp h k) := by
  unfold hp
  split
  · exact Sm.rf _ h
  · exact fd_sm h k
theorem w_isWindow {x : Int32} {Q : Int32 → xH → Prop} (no : (∀ w, w < 6 → x ≠ nI w) → Q 0 h) (yes : ∀ w, w < 6 → x = nI w → Q 1 h) : p_T_isWindow x h Q := by
  have e0 : (0 : Int32).toInt = 0 := rfl
  have e6 : (6 : Int32).toInt = 6 := rfl
  unfold p_T_isWindow
  refine ⟨fun c => no (fun w hw e => ?_), fun c => ⟨fun c2 => no (fun w hw e => ?_), fun c2 => ?_⟩⟩
  · rw [e, ti_lt, ti_n (by omega), e0] at c; omega
  · rw [e, ti_le, ti_n (by omega), e6] at c2; omega
  · rw [ti_lt, e0] at c
    rw [ti_le, e6] at c2
    refine yes x.toInt.toNat (by omega) ?_
    rw [ti_eq, ti_n (by omega)]; omega
theorem w_mWindow {x : Int32} {Q : Int32 → xH → Prop} (no : (∀ w, w < 6 → x ≠ nI w) → Q 0 h) (yes : ∀ w, w < 6 → x = nI w → Q 1 h) : p_M_isWindow x h Q := by
  have e0 : (0 : Int32).toInt = 0 := rfl
  have e5 : (5 : Int32).toInt = 5 := rfl
  unfold p_M_isWindow
  refine w_in (fun c => ⟨Or.inl rfl, no (fun w hw e => ?_)⟩) (fun c => ⟨Or.inr rfl, ?_⟩)
  · rw [e, ti_n (by omega), e0, e5] at c; omega
  · rw [e0, e5] at c
    refine yes x.toInt.toNat (by omega) ?_
    rw [ti_eq, ti_n (by omega)]; omega
/-- what bars a slip; a slip that must hold something; a place in it -/
def lkS (I : xN → Nat → Int32) (w : Nat) (y : Int32) : Nat := if I (85, 0) w = 0 then 1 else if 0 ≤ y.toInt ∧ y.toInt < (I (86, 0) w).toInt then 0 else 2
def lkH (I : xN → Nat → Int32) (w : Nat) (y : Int32) (what : Int32) : Nat := if lkS I w y = 0 then (if I (87, 0) (12 * w + y.toNatClampNeg) = 0 then 1 else if I (87, 0) (12 * w + y.toNatClampNeg) = what then 0 else 3) else lkS I w y
def lkC (I : xN → Nat → Int32) (w : Nat) (y : Int32) (what k : Int32) : Nat := if lkH I w y what = 0 then (if 0 ≤ k.toInt ∧ k.toInt < (I (89, 0) (12 * w + y.toNatClampNeg)).toInt then 0 else 2) else lkH I w y what
theorem lkS_lt (I : xN → Nat → Int32) (w : Nat) (y : Int32) : lkS I w y < 7 := by unfold lkS; repeat' split
                                                                                  all_goals omega
theorem lkH_lt (I : xN → Nat → Int32) (w : Nat) (y what : Int32) : lkH I w y what < 7 := by
  have := lkS_lt I w y
  unfold lkH; repeat' split
  all_goals omega
theorem lkC_lt (I : xN → Nat → Int32) (w : Nat) (y what k : Int32) : lkC I w y what k < 7 := by
  have := lkH_lt I w y what
  unfold lkC; repeat' split
  all_goals omega
/-- they read the model alone -/
theorem lkS_eq {I I' : xN → Nat → Int32} (e : ∀ k q, 34 ≤ k → I' (k, 0) q = I (k, 0) q) (w : Nat) (y : Int32) : lkS I' w y = lkS I w y := by
  unfold lkS; rw [e 85 w (by omega), e 86 w (by omega)]
theorem lkH_eq {I I' : xN → Nat → Int32} (e : ∀ k q, 34 ≤ k → I' (k, 0) q = I (k, 0) q) (w : Nat) (y what : Int32) : lkH I' w y what = lkH I w y what := by
  unfold lkH; rw [lkS_eq e, e 87 _ (by omega)]
theorem lkC_eq {I I' : xN → Nat → Int32} (e : ∀ k q, 34 ≤ k → I' (k, 0) q = I (k, 0) q) (w : Nat) (y what k : Int32) : lkC I' w y what k = lkC I w y what k := by
  unfold lkC; rw [lkH_eq e, e 89 _ (by omega)]
theorem KC_m {h h1 : xH} (s : Sm KC h h1) : ∀ k q, 34 ≤ k → hI h1 (k, 0) q = hI h (k, 0) q := fun k q hk => s.1 _ _ (fun z => by have : k < 34 := z.1; omega)
theorem m85 (i : Inv L xs nr nt h) {w : Nat} (hw : w < 6) : hI h (85, 0) w = 0 ∨ hI h (85, 0) w = 1 := (i.vw w hw).elim (fun z => Or.inl z.1) (fun z => Or.inr z.1)
theorem w_refuseSlip (i : Inv L xs nr nt h) {x y : Int32} {Q : Int32 → xH → Prop} (no : (∀ w, w < 6 → x ≠ nI w) → Q (-2) h) (yes : ∀ w, w < 6 → x = nI w → Q (cd (lkS (hI h) w y)) (hp h (lkS (hI h) w y))) : p_T_refuseSlip (11, 0) x y h Q := by
  have e0 : (0 : Int32).toInt = 0 := rfl
  unfold p_T_refuseSlip
  refine w_isWindow (fun c => ⟨fun z => absurd rfl z, fun _ => no c⟩) (fun w hw e => ⟨fun _ => ?_, fun z => absurd z (by decide)⟩)
  subst e
  have dw := i.d.1 w hw
  have y1 := yes w hw rfl
  rw [xR_11_0_3 i.x, xS_30_0 i.x, cl_n (by omega), dw.1]
  refine ⟨rfl, rfl, in_n (by omega) (by omega), rfl, ?_⟩
  rcases i.vw w hw with ⟨v1, v2⟩ | ⟨v1, n, v2, v3, v4, v5⟩
  · rw [v2]
    have k1 : lkS (hI h) w y = 1 := by unfold lkS; rw [if_pos v1]
    rw [k1] at y1
    exact ⟨fun z => absurd rfl z, fun _ => w_found i.x (k := 1) (by omega) y1⟩
  · rw [v3]
    have ht : (nI n).toInt = n := ti_n (by omega)
    have k1 : lkS (hI h) w y = if 0 ≤ y.toInt ∧ y.toInt < n then 0 else 2 := by
      unfold lkS; rw [if_neg (by rw [v1]; decide), v4, ht]
    refine ⟨fun _ => ⟨fun c => ?_, fun c => ⟨in_n (by omega) (by omega), fun c2 => ?_, fun c2 => ?_⟩⟩, fun z => ?_⟩
    · unfold p_T_refuseSlip_j46
      rw [ti_lt, e0] at c
      rw [k1, if_neg (by omega)] at y1
      exact ⟨rfl, w_found i.x (k := 2) (by omega) y1⟩
    · rw [ti_lt, e0] at c
      rw [ti_lt, ht] at c2
      rw [k1, if_pos (by omega)] at y1
      exact y1
    · unfold p_T_refuseSlip_j46
      rw [ti_lt, ht] at c2
      rw [k1, if_neg (by omega)] at y1
      exact ⟨rfl, w_found i.x (k := 2) (by omega) y1⟩
    · exfalso
      have := congrArg Int32.toInt z
      rw [ht] at this
      have e9 : (-1 : Int32).toInt = -1 := rfl
      omega
theorem w_lacks (m : ShM (hS h) (hR h)) {w : Nat} (hw : w < 6) {y : Int32} {Q : Int32 → xH → Prop} (b : hI h (85, 0) w = 0 ∨ (hI h (85, 0) w = 1 ∧ ∃ n, n ≤ 12 ∧ hI h (86, 0) w = nI n)) (q : Q (nI (lkS (hI h) w y)) h) : p_M_lacks (12, 0) (nI w) y h Q := by
  have e0 : (0 : Int32).toInt = 0 := rfl
  unfold p_M_lacks
  rw [mR51 m, mS51 m, mR52 m, mS52 m, cl_n (by omega)]
  refine ⟨rfl, rfl, in_n (by omega) (by omega), fun c => ⟨rfl, in_n (by omega) (by omega), ?_⟩, fun c => ?_⟩
  · rcases b with b | ⟨b, n, b2, b3⟩
    · exact absurd b c
    · have k1 : lkS (hI h) w y = if 0 ≤ y.toInt ∧ y.toInt < n then 0 else 2 := by
        unfold lkS; rw [if_neg c, b3, ti_n (by omega)]
      rw [b3]
      refine w_in (fun c3 => ⟨fun _ => ?_, fun z => absurd rfl z⟩) (fun c3 => ⟨fun z => absurd z (by decide), fun _ => ?_⟩) <;> rw [sub1 (by omega), e0] at c3
      · rw [k1, if_neg (by omega)] at q; exact q
      · rw [k1, if_pos (by omega)] at q; exact q
  · have k1 : lkS (hI h) w y = 1 := by unfold lkS; rw [if_pos c]
    rw [k1] at q; exact q
end Find
