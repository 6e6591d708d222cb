section Put
variable {L : Nat} {xs : Nat → Int32} {nr nt : Nat} {v h g : xH}
theorem w_refuseSlip2 (i : Inv L xs nr nt v) (s : SC v h) {w : Nat} (hw : w < 6) {y : Int32} {Q : Int32 → xH → Prop} (q : Q (cd (lkS (hI v) w y)) (hp h (lkS (hI v) w y))) : p_T_refuseSlip (11, 0) (nI w) y h Q := by
  have e0 : (0 : Int32).toInt = 0 := rfl
  unfold p_T_refuseSlip
  refine w_isWindow (fun c => absurd rfl (c w hw)) (fun _ _ _ => ⟨fun _ => ?_, fun z => absurd z (by decide)⟩)
  have dw := i.d.1 w hw
  rw [s.2.1, s.2.2, xR_11_0_3 i.x, xS_30_0 i.x, cl_n (by omega), dw.1, s.i 3 w 1]
  refine ⟨rfl, rfl, in_n (by omega) (by omega), rfl, ?_⟩
  rcases i.vw w hw with ⟨v1, v2⟩ | ⟨v1, n, v2, v3, v4, v5⟩
  · rw [v2]
    have k1 : lkS (hI v) w y = 1 := by unfold lkS; rw [if_pos v1]
    rw [k1] at q
    exact ⟨fun z => absurd rfl z, fun _ => w_found (SC.x i s) (k := 1) (by omega) q⟩
  · rw [v3]
    have ht : (nI n).toInt = n := ti_n (by omega)
    have k1 : lkS (hI v) w y = if 0 ≤ y.toInt ∧ y.toInt < n then 0 else 2 := by
      unfold lkS; rw [if_neg (by rw [v1]; decide), v4, ht]
    refine ⟨fun _ => ⟨fun c => ?_, fun c => ⟨in_n (by omega) (by omega), fun c2 => ?_, fun c2 => ?_⟩⟩, fun z => absurd z (n_neg (by omega))⟩
    · unfold p_T_refuseSlip_j46
      rw [ti_lt, e0] at c
      rw [k1, if_neg (by omega)] at q
      exact ⟨rfl, w_found (SC.x i s) (k := 2) (by omega) q⟩
    · rw [ti_lt, e0] at c
      rw [ti_lt, ht] at c2
      rw [k1, if_pos (by omega)] at q
      exact q
    · unfold p_T_refuseSlip_j46
      rw [ti_lt, ht] at c2
      rw [k1, if_neg (by omega)] at q
      exact ⟨rfl, w_found (SC.x i s) (k := 2) (by omega) q⟩
/-- what a satchel of a form takes -/
def tkB (f k : Nat) : Bool := match f with
  | 1 => k == 0 || k == 1
  | 2 => k == 2 || k == 3
  | 3 => k == 3
  | 4 => k == 4
  | 5 => k == 1
  | _ => true
theorem f6 {f : Nat} (h : f ≤ 5) : f = 0 ∨ f = 1 ∨ f = 2 ∨ f = 3 ∨ f = 4 ∨ f = 5 := by omega
theorem w_takes {s f k : Nat} (hf : f ≤ 5) (hk : k ≤ 4) (e : hI h (7, s) 1 = nI f) {Q : Int32 → xH → Prop} (yes : tkB f k = true → Q 1 h) (no : tkB f k = false → Q 0 h) : p_Sa_takes (7, s) (nI k) h Q := by
  unfold p_Sa_takes
  rw [e]
  rcases f6 hf with rfl | rfl | rfl | rfl | rfl | rfl <;> rcases k5 hk with rfl | rfl | rfl | rfl | rfl
  all_goals
    repeat' (first | apply And.intro | (intro z; try (exact absurd z (by decide))))
    all_goals (first | exact yes rfl | exact no rfl | rfl)
def br (I : xN → Nat → Int32) (s : Nat) : Int32 := if I (87, 0) s = 0 then -1 else if I (87, 0) s = 1 then I (88, 0) s else -2
theorem br_or {I : xN → Nat → Int32} {s : Nat} (sl : SlOK I nt s) : br I s = -1 ∨ br I s = -2 ∨ ∃ t, t < nt ∧ br I s = nI t := by
  unfold br
  rcases sl.2 with c | ⟨c, c2, t, ht, c3⟩ | ⟨c, -⟩ | ⟨c, -⟩
  · rw [if_pos c]; exact Or.inl rfl
  · rw [c, if_neg (by decide), if_pos rfl]; exact Or.inr (Or.inr ⟨t, ht, c3⟩)
  · rw [c, if_neg (by decide), if_neg (by decide)]; exact Or.inr (Or.inl rfl)
  · rw [c, if_neg (by decide), if_neg (by decide)]; exact Or.inr (Or.inl rfl)
theorem w_brings (c0 : SC v h) {s : Nat} (sl : SlOK (hI v) nt s) {Q : Int32 → xH → Prop} (q : Q (br (hI v) s) h) : p_Sl_brings (9, s) h Q := by
  unfold p_Sl_brings
  unfold br at q
  rw [c0.i 9 s 1, c0.i 9 s 2, sl.1]
  refine ⟨rfl, fun c => ⟨fun c2 => ?_, fun c2 => ?_⟩, fun c => ?_⟩
  · rw [if_neg c, if_neg c2] at q; exact q
  · rw [if_neg c, if_pos c2] at q
    rcases sl.2 with z | ⟨z, z2, -⟩ | ⟨z, -⟩ | ⟨z, -⟩
    · exact absurd z c
    · rw [z2]; exact q
    · rw [z] at c2; exact absurd c2 (by decide)
    · rw [z] at c2; exact absurd c2 (by decide)
  · rw [if_pos c] at q; exact q
/-- what bars what comes to a satchel -/
def pcd (I : xN → Nat → Int32) (s : Nat) (x : Int32) : Nat := if x = -1 then 0 else if x = -2 then 4 else if tkB (I (93, 0) s).toNatClampNeg (kf (I (58, 0) x.toNatClampNeg).toNatClampNeg) then 0 else 4
def ppc (I : xN → Nat → Int32) (s : Nat) (y x : Int32) : Nat := if lkP I s y = 0 then pcd I s x else lkP I s y
theorem ppc_lt (I : xN → Nat → Int32) (s : Nat) (y x : Int32) : ppc I s y x < 7 := by
  have := lkP_lt I s y
  unfold ppc pcd; repeat' split
  all_goals omega
theorem n_neg2 {j : Nat} (hj : j < 2147483648) : ¬ nI j = -2 := fun e => by
  have := congrArg Int32.toInt e
  rw [ti_n hj] at this
  have e9 : (-2 : Int32).toInt = -2 := rfl
  omega
theorem w_putIn (i : Inv L xs nr nt v) (c0 : SC v h) {s : Nat} (hs : s < 4) {y x : Int32} (hx : x = -1 ∨ x = -2 ∨ ∃ t, t < nt ∧ x = nI t) {Q : Int32 → xH → Prop} (bad : ppc (hI v) s y x ≠ 0 → Q (cd (ppc (hI v) s y x)) (hp h (ppc (hI v) s y x))) (good : ppc (hI v) s y x = 0 → ∀ j, j < 10 → y = nI j → Q 0 (sI h (23, s) j x)) : p_T_putIn (11, 0) (nI s) y x h Q := by
  have hn := i.vc.2.1
  unfold p_T_putIn
  refine ⟨rfl, w_refusePlace i c0 hs ?_⟩
  by_cases k0 : lkP (hI v) s y = 0
  · rw [k0]
    have ep : ppc (hI v) s y x = pcd (hI v) s x := by unfold ppc; rw [if_pos k0]
    rw [ep] at bad good
    obtain ⟨n, f, j, n1, f1, hj, rfl, v1, v2, v3, v4, v5, v6⟩ := lkP_0 i hs k0
    obtain ⟨r1, r2, r3, r4, r5⟩ := satR i hs
    have j0 : pcd (hI v) s x ≠ 0 → pcd (hI v) s x = 4 → p_T_putIn_j58 0 (11, 0) (nI s) (nI j) x h Q := fun z z4 => by
      unfold p_T_putIn_j58
      refine ⟨fun z => absurd rfl z, fun _ => ⟨rfl, w_found (SC.x i c0) (k := 4) (by omega) ?_⟩⟩
      have := bad z
      rw [z4] at this
      exact this
    have j1 : ∀ w : Int32, ¬ w = 0 → pcd (hI v) s x = 0 → p_T_putIn_j58 w (11, 0) (nI s) (nI j) x h Q := fun w hw z => by
      unfold p_T_putIn_j58
      refine ⟨fun _ => ?_, fun z => absurd z hw⟩
      rw [c0.2.1, c0.2.2, r1, r2, cl_n (by omega), cl_n (by omega), r3, r4, r5]
      refine ⟨rfl, rfl, in_n (by omega) (by omega), rfl, rfl, in_n (by omega) (by omega), fun h2 q2 => ?_⟩
      rw [q2]
      exact good z j (by omega) rfl
    refine ⟨fun _ => w_findTicket2 i c0 (fun no => ⟨fun z => absurd rfl z, fun _ => ?_⟩) (fun t ht e => ⟨fun _ => ?_, fun z => absurd z (nz 9 t)⟩), fun z => absurd rfl z⟩
    · refine ⟨fun c => j0 ?_ ?_, fun c => j1 1 (by decide) ?_⟩
      · unfold pcd; rw [if_neg c, if_pos ((hx.resolve_left c).resolve_right (fun ⟨t, ht, e⟩ => no t ht e))]; decide
      · unfold pcd; rw [if_neg c, if_pos ((hx.resolve_left c).resolve_right (fun ⟨t, ht, e⟩ => no t ht e))]
      · unfold pcd; rw [if_pos c]
    · subst e
      obtain ⟨p, ta, tb, tc, u, k⟩ := tkf i ht
      have hp49 := k.p49
      have tr := tkr i ht k
      have pk := plk i hp49 k.there
      have epc : pcd (hI v) s (nI t) = if tkB f (kf p) then 0 else 4 := by
        unfold pcd; rw [if_neg (n_neg (by omega)), if_neg (n_neg2 (by omega)), v5, cl_n (by omega), cl_n (by omega), k.pool, cl_n (by omega)]
      show _ ∧ _
      rw [c0.2.1, c0.2.2, r1, r2, cl_n (by omega), r3, tr.2, c0.i 5 p 1, pk.2.1]
      refine ⟨rfl, in_n (by omega) (by omega), rfl, rfl, rfl, w_takes f1 kf_le (by rw [c0.i 7 s 1]; exact v4) (fun z => j1 1 (by decide) ?_) (fun z => j0 ?_ ?_)⟩
      · rw [epc, if_pos z]
      · rw [epc, if_neg (by rw [z]; decide)]; decide
      · rw [epc, if_neg (by rw [z]; decide)]
  · have ep : ppc (hI v) s y x = lkP (hI v) s y := by unfold ppc; rw [if_neg k0]
    rw [ep] at bad
    exact ⟨fun z => absurd ((cd_0 (lkP_lt _ _ _)).mp z) k0, fun _ => bad k0⟩
theorem w_mTakes (i : Inv L xs nr nt v) (sm : SM v g) {s : Nat} (hs : s < 4) {f : Nat} (hf : f ≤ 5) (ef : hI v (93, 0) s = nI f) {x : Int32} (hx : x = -1 ∨ ∃ t, t < nt ∧ x = nI t) {Q : Int32 → xH → Prop} (yes : pcd (hI v) s x = 0 → Q 1 g) (no : pcd (hI v) s x = 4 → Q 0 g) : p_M_takes (12, 0) (nI s) x g Q := by
  have hn := i.vc.2.1
  have m := SM.m i sm
  unfold p_M_takes
  refine ⟨fun c => ?_, fun c => yes (by unfold pcd; rw [if_pos c])⟩
  obtain ⟨t, ht, rfl⟩ := hx.resolve_left c
  obtain ⟨p, ta, tb, tc, u, k⟩ := tkf i ht
  have hp := k.p49
  have epc : pcd (hI v) s (nI t) = if tkB f (kf p) then 0 else 4 := by
    unfold pcd; rw [if_neg (n_neg (by omega)), if_neg (n_neg2 (by omega)), ef, cl_n (by omega), cl_n (by omega), k.pool, cl_n (by omega)]
  rw [mR24 m, mS24 m, cl_n (by omega), sm.i 58, k.pool]
  refine ⟨rfl, rfl, in_n (by omega) (by omega), w_mKindOf hp ?_⟩
  rw [mR59 m, mS59 m, cl_n (by omega), sm.i 93, ef]
  refine ⟨rfl, in_n (by omega) (by omega), ?_⟩
  rw [epc] at yes no
  have hk := kf_le (p := p)
  generalize kf p = q at *
  clear epc
  rcases f6 hf with rfl | rfl | rfl | rfl | rfl | rfl <;> rcases k5 hk with rfl | rfl | rfl | rfl | rfl
  all_goals
    repeat' (first | apply And.intro | (intro z; try (exact absurd z (by decide))))
    all_goals (first | exact yes rfl | exact no rfl)
end Put
