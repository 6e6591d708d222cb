section Pools
variable {L : Nat} {xs : Nat → Int32} {nr nt : Nat} {v h g : xH}
theorem p40 (i : Inv L xs nr nt v) {p : Nat} (hp : p < 49) : hI v (40, 0) p = 0 ∨ hI v (40, 0) p = 1 := (i.sp p hp).elim (fun z => Or.inr z.1) (fun z => Or.inl z.1)
theorem w_findPool (i : Inv L xs nr nt v) (s : SC v h) {r : Int32} {Q : xN → xH → Prop} (no : (∀ p, p < 49 → hI v (40, 0) p = 1 → r ≠ nI p) → Q (0, 0) h) (yes : ∀ p, p < 49 → hI v (40, 0) p = 1 → r = nI p → Q (5, p) h) : p_T_findPool (11, 0) r h Q := by
  have e0 : (0 : Int32).toInt = 0 := rfl
  have e48 : (48 : Int32).toInt = 48 := rfl
  unfold p_T_findPool
  rw [s.2.1, s.2.2, xR_11_0_1 i.x, xS_28_0 i.x]
  refine ⟨fun c => no (fun p hp _ e => ?_), fun c => ⟨fun c2 => ⟨rfl, rfl, ?_⟩, fun c2 => no (fun p hp _ e => ?_)⟩⟩
  · rw [e, ti_lt, ti_n (by omega), e0] at c; omega
  · obtain ⟨p, hp, rfl⟩ : ∃ p, p < 49 ∧ r = nI p := by
      rw [ti_lt, e0] at c
      rw [ti_le, e48] at c2
      exact ⟨r.toInt.toNat, by omega, by rw [ti_eq, ti_n (by omega)]; omega⟩
    rw [cl_n (by omega)]
    refine ⟨in_n (by omega) (by omega), ?_⟩
    rcases i.sp p hp with z | z
    · rw [z.2.1]; exact yes p hp z.1 rfl
    · rw [z.2.1]
      refine no (fun p' hp' z' e => ?_)
      rw [nI_inj (by omega) (by omega)] at e
      rw [← e, z.1] at z'
      exact absurd z' (by decide)
  · rw [e, ti_le, ti_n (by omega), e48] at c2; omega
theorem w_isThere (i : Inv L xs nr nt v) (s : SM v g) {r : Int32} {Q : Int32 → xH → Prop} (no : (∀ p, p < 49 → hI v (40, 0) p = 1 → r ≠ nI p) → Q 0 g) (yes : ∀ p, p < 49 → hI v (40, 0) p = 1 → r = nI p → Q 1 g) : p_M_isThere (12, 0) r g Q := by
  have e0 : (0 : Int32).toInt = 0 := rfl
  have e48 : (48 : Int32).toInt = 48 := rfl
  have m := SM.m i s
  unfold p_M_isThere
  refine w_in (fun c => ⟨fun _ => no (fun p hp _ e => ?_), fun z => absurd rfl z⟩) (fun c => ⟨fun z => absurd z (by decide), fun _ => ?_⟩)
  · rw [e, ti_n (by omega), e0, e48] at c; omega
  · obtain ⟨p, hp, rfl⟩ : ∃ p, p < 49 ∧ r = nI p := by
      rw [e0, e48] at c
      exact ⟨r.toInt.toNat, by omega, by rw [ti_eq, ti_n (by omega)]; omega⟩
    rw [mR6 m, mS6 m, cl_n (by omega), s.i 40]
    refine ⟨rfl, rfl, in_n (by omega) (by omega), fun z => no (fun p' hp' z' e => ?_), fun z => yes p hp ((p40 i hp).resolve_left z) rfl⟩
    rw [nI_inj (by omega) (by omega)] at e
    rw [← e, z] at z'
    exact absurd z' (by decide)
/-- an entry of a book -/
def be (I : xN → Nat → Int32) (p q : Nat) : Int32 := if q < 10 then I (46 + q, 0) p else I (43, 0) p
theorem be_eq (i : Inv L xs nr nt v) {p q : Nat} (hp : p < 49) (c : hI v (40, 0) p = 1) (hq : q < 11) : hI v (19, p) q = be (hI v) p q := by
  have z := (i.vp p hp).1 c
  obtain ⟨c0, c1, c2, c3, c4, c5, c6, c7, c8, c9⟩ := z.2.2.2.2.2.2.2.2.2.1
  have c10 := z.2.2.2.2.2.2.2.2.2.2
  rcases (show q = 0 ∨ q = 1 ∨ q = 2 ∨ q = 3 ∨ q = 4 ∨ q = 5 ∨ q = 6 ∨ q = 7 ∨ q = 8 ∨ q = 9 ∨ q = 10 by omega) with rfl | rfl | rfl | rfl | rfl | rfl | rfl | rfl | rfl | rfl | rfl
  · exact c0
  · exact c1
  · exact c2
  · exact c3
  · exact c4
  · exact c5
  · exact c6
  · exact c7
  · exact c8
  · exact c9
  · exact c10
theorem w_mbook (i : Inv L xs nr nt v) (s : SM v g) {p q : Nat} (hp : p < 49) (c : hI v (40, 0) p = 1) (hq : q < 11) {Q : Int32 → xH → Prop} (k : Q (be (hI v) p q) g) : p_M_book (12, 0) (nI p) (nI q) g Q := by
  have m := SM.m i s
  unfold p_M_book
  refine ⟨rfl, w_isThere i s (fun z => absurd rfl (z p hp c)) (fun _ _ _ _ => ⟨fun _ => ?_, fun z => absurd z (by decide)⟩)⟩
  have vi : vp_in (nI p) (50 - 1) := in_n (by omega) (by omega)
  rw [mR12 m, mS12 m, mR13 m, mS13 m, mR14 m, mS14 m, mR15 m, mS15 m, mR16 m, mS16 m, mR17 m, mS17 m, mR18 m, mS18 m, mR19 m, mS19 m, mR20 m, mS20 m, mR21 m, mS21 m, mR9 m, mS9 m, cl_n (by omega)]
  rcases (show q = 0 ∨ q = 1 ∨ q = 2 ∨ q = 3 ∨ q = 4 ∨ q = 5 ∨ q = 6 ∨ q = 7 ∨ q = 8 ∨ q = 9 ∨ q = 10 by omega) with rfl | rfl | rfl | rfl | rfl | rfl | rfl | rfl | rfl | rfl | rfl
  · exact ⟨fun _ => ⟨rfl, vi, by rw [s.i 46]; exact k⟩, fun z => absurd z (by decide), fun z => absurd z (by decide), fun z => absurd z (by decide), fun z => absurd z (by decide), fun z => absurd z (by decide), fun z => absurd z (by decide), fun z => absurd z (by decide), fun z => absurd z (by decide), fun z => absurd z (by decide), fun z => absurd z (by decide), fun z => absurd rfl (z 0 (by simp))⟩
  · exact ⟨fun z => absurd z (by decide), fun _ => ⟨rfl, vi, by rw [s.i 47]; exact k⟩, fun z => absurd z (by decide), fun z => absurd z (by decide), fun z => absurd z (by decide), fun z => absurd z (by decide), fun z => absurd z (by decide), fun z => absurd z (by decide), fun z => absurd z (by decide), fun z => absurd z (by decide), fun z => absurd z (by decide), fun z => absurd rfl (z 1 (by simp))⟩
  · exact ⟨fun z => absurd z (by decide), fun z => absurd z (by decide), fun _ => ⟨rfl, vi, by rw [s.i 48]; exact k⟩, fun z => absurd z (by decide), fun z => absurd z (by decide), fun z => absurd z (by decide), fun z => absurd z (by decide), fun z => absurd z (by decide), fun z => absurd z (by decide), fun z => absurd z (by decide), fun z => absurd z (by decide), fun z => absurd rfl (z 2 (by simp))⟩
  · exact ⟨fun z => absurd z (by decide), fun z => absurd z (by decide), fun z => absurd z (by decide), fun _ => ⟨rfl, vi, by rw [s.i 49]; exact k⟩, fun z => absurd z (by decide), fun z => absurd z (by decide), fun z => absurd z (by decide), fun z => absurd z (by decide), fun z => absurd z (by decide), fun z => absurd z (by decide), fun z => absurd z (by decide), fun z => absurd rfl (z 3 (by simp))⟩
  · exact ⟨fun z => absurd z (by decide), fun z => absurd z (by decide), fun z => absurd z (by decide), fun z => absurd z (by decide), fun _ => ⟨rfl, vi, by rw [s.i 50]; exact k⟩, fun z => absurd z (by decide), fun z => absurd z (by decide), fun z => absurd z (by decide), fun z => absurd z (by decide), fun z => absurd z (by decide), fun z => absurd z (by decide), fun z => absurd rfl (z 4 (by simp))⟩
  · exact ⟨fun z => absurd z (by decide), fun z => absurd z (by decide), fun z => absurd z (by decide), fun z => absurd z (by decide), fun z => absurd z (by decide), fun _ => ⟨rfl, vi, by rw [s.i 51]; exact k⟩, fun z => absurd z (by decide), fun z => absurd z (by decide), fun z => absurd z (by decide), fun z => absurd z (by decide), fun z => absurd z (by decide), fun z => absurd rfl (z 5 (by simp))⟩
  · exact ⟨fun z => absurd z (by decide), fun z => absurd z (by decide), fun z => absurd z (by decide), fun z => absurd z (by decide), fun z => absurd z (by decide), fun z => absurd z (by decide), fun _ => ⟨rfl, vi, by rw [s.i 52]; exact k⟩, fun z => absurd z (by decide), fun z => absurd z (by decide), fun z => absurd z (by decide), fun z => absurd z (by decide), fun z => absurd rfl (z 6 (by simp))⟩
  · exact ⟨fun z => absurd z (by decide), fun z => absurd z (by decide), fun z => absurd z (by decide), fun z => absurd z (by decide), fun z => absurd z (by decide), fun z => absurd z (by decide), fun z => absurd z (by decide), fun _ => ⟨rfl, vi, by rw [s.i 53]; exact k⟩, fun z => absurd z (by decide), fun z => absurd z (by decide), fun z => absurd z (by decide), fun z => absurd rfl (z 7 (by simp))⟩
  · exact ⟨fun z => absurd z (by decide), fun z => absurd z (by decide), fun z => absurd z (by decide), fun z => absurd z (by decide), fun z => absurd z (by decide), fun z => absurd z (by decide), fun z => absurd z (by decide), fun z => absurd z (by decide), fun _ => ⟨rfl, vi, by rw [s.i 54]; exact k⟩, fun z => absurd z (by decide), fun z => absurd z (by decide), fun z => absurd rfl (z 8 (by simp))⟩
  · exact ⟨fun z => absurd z (by decide), fun z => absurd z (by decide), fun z => absurd z (by decide), fun z => absurd z (by decide), fun z => absurd z (by decide), fun z => absurd z (by decide), fun z => absurd z (by decide), fun z => absurd z (by decide), fun z => absurd z (by decide), fun _ => ⟨rfl, vi, by rw [s.i 55]; exact k⟩, fun z => absurd z (by decide), fun z => absurd rfl (z 9 (by simp))⟩
  · refine ⟨fun z => absurd z (by decide), fun z => absurd z (by decide), fun z => absurd z (by decide), fun z => absurd z (by decide), fun z => absurd z (by decide), fun z => absurd z (by decide), fun z => absurd z (by decide), fun z => absurd z (by decide), fun z => absurd z (by decide), fun z => absurd z (by decide), fun _ => ⟨rfl, vi, fun z => ?_, fun z => ?_⟩, fun z => absurd rfl (z 10 (by simp))⟩
    · rw [s.i 43] at z
      have : be (hI v) p 10 = 0 := z
      rw [this] at k; exact k
    · rw [s.i 43] at z
      have : be (hI v) p 10 = 1 := (pls i hp c).resolve_left z
      rw [this] at k; exact k
/-- promise 18 -/
theorem o_book (H : Ok L xs h) (r x : Int32) {F : Int32 → xH → Prop} (hF : Nx L xs (p_M_book (12, 0) r x) F) : p_T_book (11, 0) r x h F := by
  obtain ⟨nr, nt, i⟩ := H
  have e0 : (0 : Int32).toInt = 0 := rfl
  have e11 : (11 : Int32).toInt = 11 := rfl
  unfold p_T_book
  refine ⟨rfl, w_findPool i (SC.rf h) (fun hno => ⟨fun z => absurd rfl z, fun _ => hF _ _ i.vs (fun G hG => ?_)⟩) (fun p hp c e => ⟨fun _ => ?_, fun z => absurd z (nz 4 p)⟩)⟩
  · unfold p_M_book
    exact ⟨rfl, w_isThere i (SM.rf h) (fun _ => ⟨fun z => absurd rfl z, fun _ => hG h ⟨nr, nt, i⟩⟩) (fun p hp c e => absurd e (hno p hp c))⟩
  · subst e
    have no : ¬ (0 ≤ x.toInt ∧ x.toInt < 11) → F (-3) h := fun cc => hF _ _ i.vs (fun G hG => by
      have g := hG h ⟨nr, nt, i⟩
      have ne : ∀ q : Nat, q < 11 → x ≠ nI q := fun q hq e => cc (by rw [e, ti_n (by omega)]; omega)
      unfold p_M_book
      refine ⟨rfl, w_isThere i (SM.rf h) (fun z => absurd rfl (z p hp c)) (fun _ _ _ _ => ⟨fun _ => ?_, fun z => absurd z (by decide)⟩)⟩
      exact ⟨fun z => absurd z (ne 0 (by omega)), fun z => absurd z (ne 1 (by omega)), fun z => absurd z (ne 2 (by omega)), fun z => absurd z (ne 3 (by omega)), fun z => absurd z (ne 4 (by omega)), fun z => absurd z (ne 5 (by omega)), fun z => absurd z (ne 6 (by omega)), fun z => absurd z (ne 7 (by omega)), fun z => absurd z (ne 8 (by omega)), fun z => absurd z (ne 9 (by omega)), fun z => absurd z (ne 10 (by omega)), fun _ => g⟩)
    refine ⟨fun c1 => no (by rw [ti_lt, e0] at c1; omega), fun c1 => ⟨fun c2 => ?_, fun c2 => no (by rw [ti_lt, e11] at c2; omega)⟩⟩
    obtain ⟨q, hq, rfl⟩ : ∃ q, q < 11 ∧ x = nI q := by
      rw [ti_lt, e0] at c1; rw [ti_lt, e11] at c2
      exact ⟨x.toInt.toNat, by omega, by rw [ti_eq, ti_n (by omega)]; omega⟩
    have pr := plr i hp c
    rw [pr.2.2.2.2.2.1, pr.2.2.2.2.2.2.2.2, cl_n (by omega), be_eq i hp c hq]
    exact ⟨rfl, rfl, in_n (by omega) (by omega), hF _ _ i.vs (fun G hG => w_mbook i (SM.rf h) hp c hq (hG h ⟨nr, nt, i⟩))⟩
end Pools
section Count
variable {L : Nat} {xs : Nat → Int32} {nr nt : Nat} {v h g : xH}
/-- sums over pools, as both take them -/
def psm (f : Nat → Int32) : Nat → Int32
  | 0 => 0
  | n + 1 => psm f n + f n
def psl (f : Nat → Int64) : Nat → Int64
  | 0 => 0
  | n + 1 => psl f n + f n
theorem psl_32 (f : Nat → Int32) : ∀ n, (psl (fun p => (f p).toInt64) n).toInt32 = psm f n
  | 0 => rfl
  | n + 1 => by
    unfold psl psm
    rw [Int64.toInt32_add, psl_32 f n, Int32.toInt32_toInt64]
theorem w_countPools (i : Inv L xs nr nt h) {Q : Int32 → xH → Prop} (q : Q (psm (fun p => if hI h (40, 0) p = 1 then 1 else 0) 49) h) : p_T_countPools (11, 0) h Q := by
  unfold p_T_countPools
  refine ⟨50, ?_⟩
  have key : ∀ (m a : Nat), a + m = 49 → p_T_countPools_L4 (11, 0) (fun x h => Q x h) Q (m + 1) (psm (fun p => if hI h (40, 0) p = 1 then 1 else 0) a) (nI a) h := by
    intro m
    induction m with
    | zero =>
      intro a ha
      unfold p_T_countPools_L4
      refine ⟨fun _ => ?_, fun c => absurd ?_ c⟩
      · rw [show a = 49 by omega]; exact q
      · rw [ti_lt, ti_n (by omega), show (48 : Int32).toInt = 48 from rfl]; omega
    | succ m ih =>
      intro a ha
      have ih2 := ih (a + 1) (by omega)
      unfold psm at ih2
      unfold p_T_countPools_L4
      rw [xR_11_0_1 i.x, xS_28_0 i.x, cl_n (by omega)]
      refine ⟨fun c => ?_, fun _ => ⟨rfl, rfl, in_n (by omega) (by omega), ?_⟩⟩
      · rw [ti_lt, ti_n (by omega), show (48 : Int32).toInt = 48 from rfl] at c; omega
      · rcases i.sp a (by omega) with z | z
        · rw [z.2.1]
          refine ⟨fun _ w hw x hx => ?_, fun z => absurd z (by simp)⟩
          rw [if_pos z.1] at ih2
          rw [hw, hx, nI_1]; exact ih2
        · rw [z.2.1]
          refine ⟨fun z => absurd rfl z, fun _ w hw x hx => ?_⟩
          rw [if_neg (by rw [z.1]; decide)] at ih2
          rw [hw, hx, nI_1]; exact ih2
  exact key 49 0 (by omega)
theorem w_mpools (i : Inv L xs nr nt h) {Q : Int32 → xH → Prop} (q : Q (psm (fun p => if hI h (40, 0) p = 1 then 1 else 0) 49) h) : p_M_pools (12, 0) h Q := by
  unfold p_M_pools
  refine ⟨50, ?_⟩
  have m0 := i.m
  have key : ∀ (m a : Nat), a + m = 49 → p_M_pools_L4 (12, 0) (fun x h => Q x h) Q (m + 1) (psm (fun p => if hI h (40, 0) p = 1 then 1 else 0) a) (nI a) h := by
    intro m
    induction m with
    | zero =>
      intro a ha
      unfold p_M_pools_L4
      refine ⟨fun _ => ?_, fun c => absurd ?_ c⟩
      · rw [show a = 49 by omega]; exact q
      · rw [ti_le, ti_n (by omega), show (49 : Int32).toInt = 49 from rfl]; omega
    | succ m ih =>
      intro a ha
      have ih2 := ih (a + 1) (by omega)
      unfold psm at ih2
      unfold p_M_pools_L4
      rw [mR6 m0, mS6 m0, cl_n (by omega)]
      refine ⟨fun c => ?_, fun _ => ⟨rfl, rfl, in_n (by omega) (by omega), fun c w hw x hx => ?_, fun c w hw x hx => ?_⟩⟩
      · rw [ti_le, ti_n (by omega), show (49 : Int32).toInt = 49 from rfl] at c; omega
      · rw [if_neg (by rw [c]; decide)] at ih2
        rw [hw, hx, nI_1]; exact ih2
      · rw [if_pos ((p40 i (by omega)).resolve_left c)] at ih2
        rw [hw, hx, nI_1]; exact ih2
  exact key 49 0 (by omega)
theorem w_allDeducted (i : Inv L xs nr nt h) {Q : Int64 → xH → Prop} (q : Q (psl (fun p => (hI h (49, 0) p).toInt64) 49) h) : p_T_allDeducted (11, 0) h Q := by
  unfold p_T_allDeducted
  refine ⟨50, ?_⟩
  have key : ∀ (m a : Nat), a + m = 49 → p_T_allDeducted_L4 (11, 0) (fun x h => Q x h) Q (m + 1) (psl (fun p => (hI h (49, 0) p).toInt64) a) (nI a) h := by
    intro m
    induction m with
    | zero =>
      intro a ha
      unfold p_T_allDeducted_L4
      refine ⟨fun _ => ?_, fun c => absurd ?_ c⟩
      · rw [show a = 49 by omega]; exact q
      · rw [ti_lt, ti_n (by omega), show (48 : Int32).toInt = 48 from rfl]; omega
    | succ m ih =>
      intro a ha
      have ih2 := ih (a + 1) (by omega)
      unfold psl at ih2
      unfold p_T_allDeducted_L4
      rw [xR_11_0_1 i.x, xS_28_0 i.x, cl_n (by omega)]
      refine ⟨fun c => ?_, fun _ => ⟨rfl, rfl, in_n (by omega) (by omega), ?_⟩⟩
      · rw [ti_lt, ti_n (by omega), show (48 : Int32).toInt = 48 from rfl] at c; omega
      · rcases i.sp a (by omega) with z | z
        · have b := be_eq i (p := a) (q := 3) (by omega) z.1 (by omega)
          rw [z.2.1, z.2.2.2.2.2.2.1, z.2.2.2.2.2.2.2.2.2]
          refine ⟨fun _ => ⟨in_n (by omega) (by omega), rfl, rfl, in_n (j := 3) (by omega) (by omega), fun w hw x hx => ?_⟩, fun z => absurd z (by simp)⟩
          rw [hw, hx, nI_1, show (3 : Int32).toNatClampNeg = 3 from rfl, b]; exact ih2
        · rw [z.2.1]
          refine ⟨fun z => absurd rfl z, fun _ w hw x hx => ?_⟩
          rw [((i.vp a (by omega)).2 z.1).2.2.2.2.1] at ih2
          rw [hw, hx, nI_1]; exact ih2
  exact key 49 0 (by omega)
theorem w_mallDeducted (m0 : ShM (hS g) (hR g)) {Q : Int32 → xH → Prop} (q : Q (psm (fun p => hI g (49, 0) p) 49) g) : p_M_allDeducted (12, 0) g Q := by
  unfold p_M_allDeducted
  refine ⟨50, ?_⟩
  have key : ∀ (m a : Nat), a + m = 49 → p_M_allDeducted_L4 (12, 0) (fun x h => Q x h) Q (m + 1) (psm (fun p => hI g (49, 0) p) a) (nI a) g := by
    intro m
    induction m with
    | zero =>
      intro a ha
      unfold p_M_allDeducted_L4
      refine ⟨fun _ => ?_, fun c => absurd ?_ c⟩
      · rw [show a = 49 by omega]; exact q
      · rw [ti_le, ti_n (by omega), show (49 : Int32).toInt = 49 from rfl]; omega
    | succ m ih =>
      intro a ha
      have ih2 := ih (a + 1) (by omega)
      unfold psm at ih2
      unfold p_M_allDeducted_L4
      rw [mR15 m0, mS15 m0, cl_n (by omega)]
      refine ⟨fun c => ?_, fun _ => ⟨rfl, rfl, in_n (by omega) (by omega), fun w hw x hx => ?_⟩⟩
      · rw [ti_le, ti_n (by omega), show (49 : Int32).toInt = 49 from rfl] at c; omega
      · rw [hw, hx, nI_1]; exact ih2
  exact key 49 0 (by omega)
theorem w_countLive (i : Inv L xs nr nt h) {Q : Int32 → xH → Prop} (q : Q (psm (fun t => if hI h (63, 0) t = 0 then 1 else 0) nt) h) : p_T_countLive (11, 0) h Q := by
  have hn := i.vc.2.1
  have x11 := i.vc.2.2.2.2.1
  unfold p_T_countLive
  refine ⟨nt + 1, ?_⟩
  have key : ∀ (m a : Nat), a + m = nt → p_T_countLive_L4 (11, 0) (fun x h => Q x h) Q (m + 1) (psm (fun t => if hI h (63, 0) t = 0 then 1 else 0) a) (nI a) h := by
    intro m
    induction m with
    | zero =>
      intro a ha
      unfold p_T_countLive_L4
      rw [x11]
      refine ⟨rfl, fun _ => ?_, fun c => absurd (by rw [le_nn (by omega) (by omega)]; omega) c⟩
      rw [show a = nt by omega]; exact q
    | succ m ih =>
      intro a ha
      have ih2 := ih (a + 1) (by omega)
      unfold psm at ih2
      obtain ⟨p, ta, tb, tc, u, k⟩ := tkf i (t := a) (by omega)
      have tr := tkr i (by omega) k
      unfold p_T_countLive_L4
      rw [x11, xR_11_0_2 i.x, xS_29_0 i.x, cl_n (by omega), tr.1, k.cls.2.2.2.2.2]
      refine ⟨rfl, fun c => ?_, fun _ => ⟨rfl, in_n (by omega) (by omega), rfl, fun c w hw x hx => ?_, fun c w hw x hx => ?_⟩⟩
      · rw [le_nn (by omega) (by omega)] at c; omega
      · rw [if_neg c] at ih2; rw [hw, hx, nI_1]; exact ih2
      · rw [if_pos c] at ih2; rw [hw, hx, nI_1]; exact ih2
  exact key nt 0 (by omega)
theorem w_mcountL (i : Inv L xs nr nt h) {Q : Int32 → xH → Prop} (q : Q (psm (fun t => if hI h (63, 0) t = 0 then 1 else 0) nt) h) : ∃ f, p_M_count_L59 (12, 0) (fun x h => Q x h) Q f (0 : Int32) (0 : Int32) h := by
  have hn := i.vc.2.1
  have x23 := i.vc.2.2.2.2.2
  have m0 := i.m
  refine ⟨nt + 1, ?_⟩
  have key : ∀ (m a : Nat), a + m = nt → p_M_count_L59 (12, 0) (fun x h => Q x h) Q (m + 1) (psm (fun t => if hI h (63, 0) t = 0 then 1 else 0) a) (nI a) h := by
    intro m
    induction m with
    | zero =>
      intro a ha
      unfold p_M_count_L59
      rw [x23]
      refine ⟨rfl, fun _ => ?_, fun c => absurd (by rw [le_nn (by omega) (by omega)]; omega) c⟩
      rw [show a = nt by omega]; exact q
    | succ m ih =>
      intro a ha
      have ih2 := ih (a + 1) (by omega)
      unfold psm at ih2
      unfold p_M_count_L59
      rw [x23, mR29 m0, mS29 m0, cl_n (by omega)]
      refine ⟨rfl, fun c => ?_, fun _ => ⟨rfl, in_n (by omega) (by omega), fun c w hw x hx => ?_, fun c w hw x hx => ?_⟩⟩
      · rw [le_nn (by omega) (by omega)] at c; omega
      · rw [if_neg c] at ih2; rw [hw, hx, nI_1]; exact ih2
      · rw [if_pos c] at ih2; rw [hw, hx, nI_1]; exact ih2
  exact key nt 0 (by omega)
/-- promise 49 -/
theorem o_count (H : Ok L xs h) (x : Int32) {F : Int32 → xH → Prop} (hF : Nx L xs (p_M_count (12, 0) x) F) : p_T_count (11, 0) x h F := by
  obtain ⟨nr, nt, i⟩ := H
  have hc := i.vc
  have e11 : (11 : Int32).toInt = 11 := rfl
  have e16 : (16 : Int32).toInt = 16 := rfl
  obtain ⟨n, b1, b2, b3, b4⟩ := i.vb
  have d : ∀ (p q : Int32), x = p → p ≠ q → ∀ {P : Prop}, x = q → P := fun p q e n P e' => absurd (e.symm.trans e') n
  have nn : ∀ (q : Int32) {P : Prop}, q ∈ ([(0 : Int32), (1 : Int32), (2 : Int32), (3 : Int32), (4 : Int32), (5 : Int32)] : List Int32) → (∀ q ∈ ([(0 : Int32), (1 : Int32), (2 : Int32), (3 : Int32), (4 : Int32), (5 : Int32)] : List Int32), x ≠ q) → x = q → P := fun q P hq z e => absurd e (z q hq)
  unfold p_T_count
  refine ⟨fun c => ⟨rfl, ?_⟩, fun c => ⟨rfl, w_countPools i ?_⟩, fun c => ⟨rfl, ?_⟩, fun c => ⟨rfl, w_countLive i ?_⟩, fun c => ⟨rfl, ?_⟩, fun c => ⟨rfl, w_allDeducted i ?_⟩, fun c => ?_⟩
  · rw [hc.2.2.1, ← hc.2.2.2.1]
    refine hF _ _ i.vs (fun G hG => ?_)
    unfold p_M_count
    exact ⟨fun _ => ⟨rfl, hG h ⟨nr, nt, i⟩⟩, d _ _ c (by decide), d _ _ c (by decide), d _ _ c (by decide), d _ _ c (by decide), d _ _ c (by decide), fun z => absurd c (z _ (by simp))⟩
  · refine hF _ _ i.vs (fun G hG => ?_)
    unfold p_M_count
    exact ⟨d _ _ c (by decide), fun _ => ⟨rfl, w_mpools i (hG h ⟨nr, nt, i⟩)⟩, d _ _ c (by decide), d _ _ c (by decide), d _ _ c (by decide), d _ _ c (by decide), fun z => absurd c (z _ (by simp))⟩
  · rw [hc.2.2.2.2.1, ← hc.2.2.2.2.2]
    refine hF _ _ i.vs (fun G hG => ?_)
    unfold p_M_count
    exact ⟨d _ _ c (by decide), d _ _ c (by decide), fun _ => ⟨rfl, hG h ⟨nr, nt, i⟩⟩, d _ _ c (by decide), d _ _ c (by decide), d _ _ c (by decide), fun z => absurd c (z _ (by simp))⟩
  · refine hF _ _ i.vs (fun G hG => ?_)
    unfold p_M_count
    exact ⟨d _ _ c (by decide), d _ _ c (by decide), d _ _ c (by decide), fun _ => w_mcountL i (hG h ⟨nr, nt, i⟩), d _ _ c (by decide), d _ _ c (by decide), fun z => absurd c (z _ (by simp))⟩
  · rw [xR_11_0_5 i.x, b2, ← b3]
    refine ⟨rfl, hF _ _ i.vs (fun G hG => ?_)⟩
    unfold p_M_count
    exact ⟨d _ _ c (by decide), d _ _ c (by decide), d _ _ c (by decide), d _ _ c (by decide), fun _ => ⟨rfl, hG h ⟨nr, nt, i⟩⟩, d _ _ c (by decide), fun z => absurd c (z _ (by simp))⟩
  · rw [psl_32]
    refine hF _ _ i.vs (fun G hG => ?_)
    unfold p_M_count
    exact ⟨d _ _ c (by decide), d _ _ c (by decide), d _ _ c (by decide), d _ _ c (by decide), d _ _ c (by decide), fun _ => ⟨rfl, w_mallDeducted i.m (hG h ⟨nr, nt, i⟩)⟩, fun z => absurd c (z _ (by simp))⟩
  · have no : ¬ (11 ≤ x.toInt ∧ x.toInt ≤ 16) → F (-3) h := fun c2 => hF _ _ i.vs (fun G hG => by
      unfold p_M_count
      exact ⟨nn _ (by simp) c, nn _ (by simp) c, nn _ (by simp) c, nn _ (by simp) c, nn _ (by simp) c, nn _ (by simp) c, fun _ => w_in (fun _ => ⟨fun _ => hG h ⟨nr, nt, i⟩, fun z => absurd rfl z⟩) (fun c3 => absurd c3 c2)⟩)
    refine ⟨fun c1 => no (by rw [ti_lt, e11] at c1; omega), fun c1 => ⟨fun c2 => no (by rw [ti_lt, e16] at c2; omega), fun c2 => ?_⟩⟩
    have hx : 11 ≤ x.toInt ∧ x.toInt ≤ 16 := by
      rw [ti_lt, e11] at c1; rw [ti_lt, e16] at c2; omega
    obtain ⟨k, k1, k2, hk⟩ : ∃ k, 1 ≤ k ∧ k ≤ 6 ∧ x = nI (k + 10) := ⟨x.toInt.toNat - 10, by omega, by omega, by rw [ti_eq, ti_n (by omega)]; omega⟩
    rw [sb10.mpr hk, xR_11_0_9 i.x, xS_33_0 i.x, cl_n (by omega), i.vn.2.2.2.2 k (by omega)]
    refine ⟨rfl, rfl, in_n (by omega) (by omega), hF _ _ i.vs (fun G hG => ?_)⟩
    unfold p_M_count
    refine ⟨nn _ (by simp) c, nn _ (by simp) c, nn _ (by simp) c, nn _ (by simp) c, nn _ (by simp) c, nn _ (by simp) c, fun _ => w_in (fun c3 => absurd hx c3) (fun _ => ⟨fun z => absurd z (by decide), fun _ => ?_⟩)⟩
    rw [sb10.mpr hk, mR50 i.m, mS50 i.m, cl_n (by omega)]
    exact ⟨rfl, rfl, in_n (by omega) (by omega), hG h ⟨nr, nt, i⟩⟩
end Count
