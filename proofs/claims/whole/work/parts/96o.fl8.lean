section Fl8
variable {L : Nat} {xs : Nat → Int32} {nr nt : Nat} {h : xH}
/-- least and greatest as the model has them -/
noncomputable def lsU (g : Bool) (lp : Nat → Int32) (k : Nat) : UInt32 := if cnN lp k = 0 then 0 else (bst g lp k).toUInt32
theorem lsU_no {g : Bool} {lp : Nat → Int32} {k : Nat} (n : ¬ isN (lp k)) : lsU g lp (k + 1) = lsU g lp k ∧ cnN lp (k + 1) = cnN lp k ∧ smF lp (k + 1) = smF lp k := by
  have f := isB_f n
  have ec : cnN lp (k + 1) = cnN lp k := by
    show cnN lp k + (if isB (lp k) = true then 1 else 0) = _
    rw [f, if_neg (by decide)]; rfl
  have eb : bst g lp (k + 1) = bst g lp k := by
    rw [bst, f, if_neg (by decide)]
  refine ⟨?_, ec, ?_⟩
  · unfold lsU; rw [ec, eb]
  · rw [smF, f, if_neg (by decide)]
theorem lsU_yes {g : Bool} {lp : Nat → Int32} {k : Nat} (n : isN (lp k)) : lsU g lp (k + 1) = (if cnN lp k = 0 ∨ (if g = true then kyI (bst g lp k) < kyI (lp k) else kyI (lp k) < kyI (bst g lp k)) then (lp k).toUInt32 else (bst g lp k).toUInt32) ∧ cnN lp (k + 1) = cnN lp k + 1 ∧ smF lp (k + 1) = FP.fadd (smF lp k) (lp k).toUInt32 := by
  have f := isB_t n
  have ec : cnN lp (k + 1) = cnN lp k + 1 := by
    show cnN lp k + (if isB (lp k) = true then 1 else 0) = _
    rw [f, if_pos rfl]
  have eb : bst g lp (k + 1) = if cnN lp k = 0 ∨ (if g = true then kyI (bst g lp k) < kyI (lp k) else kyI (lp k) < kyI (bst g lp k)) then lp k else bst g lp k := by
    rw [bst, f, if_pos rfl]
    simp only [bst_0]
  refine ⟨?_, ec, ?_⟩
  · unfold lsU; rw [ec, if_neg (by omega), eb]
    by_cases d : cnN lp k = 0 ∨ (if g = true then kyI (bst g lp k) < kyI (lp k) else kyI (lp k) < kyI (bst g lp k))
    · rw [if_pos d, if_pos d]
    · rw [if_neg d, if_neg d]
  · rw [smF, f, if_pos rfl]
theorem w_mPace (m : ShM (hS h) (hR h)) {j c : Nat} (hj : j < 12) (hc : c ≤ 12) {lp : Nat → Int32} (e98 : hI h (98, 0) j = nI c) (e99 : ∀ k, k < c → hI h (99, 0) (12 * j + k) = lp k) {l2 : Int32} {K : UInt32 → UInt32 → UInt32 → Int32 → xH → Prop} {Q : Int32 → xH → Prop} (q : K (smF lp c) (lsU false lp c) (lsU true lp c) (nI (cnN lp c)) h) : ∃ f, p_M_pace_L33 (12, 0) (nI j) l2 K Q f 0 0 0 0 0 h := by
  have key : ∀ (n k : Nat), k + n = c → p_M_pace_L33 (12, 0) (nI j) l2 K Q (n + 1) (smF lp k) (lsU false lp k) (lsU true lp k) (nI (cnN lp k)) (nI k) h := by
    intro n
    induction n with
    | zero =>
      intro k hk
      have : k = c := by omega
      subst this
      unfold p_M_pace_L33
      rw [mR64 m, mS64 m, cl_n (by omega), e98]
      exact ⟨rfl, rfl, in_n (by omega) (by omega), fun _ => q, fun z => absurd (by rw [le_nn (by omega) (by omega)]; omega) z⟩
    | succ n ih =>
      intro k hk
      have nx := ih (k + 1) (by omega)
      have cb : cnN lp k ≤ k := cn_le _ _
      have c0 : nI (cnN lp k) = (0 : Int32) ↔ cnN lp k = 0 := nI_inj (b := 0) (by omega) (by omega)
      unfold p_M_pace_L33
      rw [mR64 m, mS64 m, cl_n (by omega), e98, mR65 m, mS65 m, ix12, cl_n (by omega), e99 k (by omega)]
      refine ⟨rfl, rfl, in_n (by omega) (by omega), fun z => absurd z (by rw [le_nn (by omega) (by omega)]; omega), fun _ => ⟨rfl, in_n (by omega) (by omega), fun v14 e14 => ?_⟩⟩
      subst e14
      refine w_mNum (fun no => ⟨fun _ v19 e19 => ?_, fun z => absurd rfl z⟩) (fun yes => ⟨fun z => absurd z (by decide), fun _ => ?_⟩)
      · rw [(lsU_no (g := false) no).1, (lsU_no (g := true) no).1, (lsU_no (g := true) no).2.1, (lsU_no (g := true) no).2.2] at nx
        rw [e19, nI_1]; exact nx
      · have ok := smF_ok lp (k + 1)
        have yf := lsU_yes (g := false) yes
        have yt := lsU_yes (g := true) yes
        rw [yf.2.2] at ok
        rw [yf.1, yt.1, yf.2.1, yf.2.2] at nx
        simp only [if_true, Bool.false_eq_true, if_false] at nx
        refine ⟨n32 ok.1, fun v22 e22 => ?_⟩
        subst e22
        -- most
        have j91 : ∀ s0, s0 = (if cnN lp k = 0 ∨ kyI (lp k) < kyI (bst false lp k) then (lp k).toUInt32 else (bst false lp k).toUInt32) → p_M_pace_j91 s0 (12, 0) (nI j) l2 (FP.fadd (smF lp k) (lp k).toUInt32) (lsU true lp k) (nI (cnN lp k)) (nI k) (lp k).toUInt32 (p_M_pace_L33 (12, 0) (nI j) l2 K Q (n + 1)) h Q := by
          intro s0 es
          rw [← es] at nx
          unfold p_M_pace_j91
          rw [c0]
          refine ⟨fun z v26 e26 v28 e28 => ?_, fun z => ?_⟩
          · rw [if_pos (Or.inl z)] at nx
            rw [e26, e28, nI_1, nI_1]; exact nx
          · have nb : isN (bst true lp k) := (bst_st true lp k).elim (fun y => absurd y.2 z) (fun y => y.1)
            have eu : lsU true lp k = (bst true lp k).toUInt32 := by unfold lsU; rw [if_neg z]
            rw [eu, cvk (nn_x yes) (nn_x nb), t3_le]
            refine ⟨fun w v31 e31 v33 e33 => ?_, fun w v35 e35 v37 e37 => ?_⟩
            · rw [if_neg (fun y => y.elim z (fun y => by unfold kyI at y; omega))] at nx
              rw [e31, e33, nI_1, nI_1]; exact nx
            · rw [if_pos (Or.inr (by unfold kyI; omega))] at nx
              rw [e35, e37, nI_1, nI_1]; exact nx
        rw [c0]
        refine ⟨fun z => j91 _ (by rw [if_pos (Or.inl z)]), fun z => ?_⟩
        have nb : isN (bst false lp k) := (bst_st false lp k).elim (fun y => absurd y.2 z) (fun y => y.1)
        have eu : lsU false lp k = (bst false lp k).toUInt32 := by unfold lsU; rw [if_neg z]
        rw [eu, cvk (nn_x yes) (nn_x nb), t3_ge]
        refine ⟨fun w => j91 _ ?_, fun w => j91 _ ?_⟩
        · rw [if_neg (fun y => y.elim z (fun y => w y))]
        · rw [if_pos (Or.inr (show kyI (lp k) < kyI (bst false lp k) from Decidable.not_not.mp w))]
  exact ⟨c + 1, key c 0 (by omega)⟩
/-- promise 44 -/
theorem o_pace (H : Ok L xs h) (r x : Int32) {F : Int32 → xH → Prop} (hF : Nx L xs (p_M_pace (12, 0) r x) F) : p_T_pace (11, 0) r x h F := by
  obtain ⟨nr, nt, i⟩ := H
  have hnr := i.vc.1
  have e0 : (0 : Int32).toInt = 0 := rfl
  have e4 : (4 : Int32).toInt = 4 := rfl
  unfold p_T_pace
  refine ⟨rfl, w_findRace i (fun hno => ⟨fun _ => hF _ _ i.vs (fun G hG => ?_), fun z => absurd rfl z⟩) (fun j hj e => ⟨fun z => absurd z (nz 5 j), fun _ => ?_⟩)⟩
  · unfold p_M_pace
    exact ⟨rfl, w_isRace i.md (fun _ => ⟨fun _ => hG h ⟨nr, nt, i⟩, fun z => absurd rfl z⟩) (fun j hj e => absurd e (hno j hj))⟩
  · subst e
    obtain ⟨c, c1, c2, c3, c4⟩ := i.vl.1 j hj
    have sr := i.sr.1 j hj
    have lpC : LpC h j c (fun k => hI h (99, 0) (12 * j + k)) := ⟨c2, c1, sr.2.2.2.2.1, sr.2.2.2.2.2.2.2.2.2.1, fun k hk => (c4 k hk).1⟩
    have out : ¬ (0 ≤ x.toInt ∧ x.toInt ≤ 4) → F 0 h := fun c5 => hF _ _ i.vs (fun G hG => by
      unfold p_M_pace
      exact ⟨rfl, w_isRace i.md (fun c => absurd rfl (c j hj)) (fun j' _ _ => ⟨fun z => absurd z (by decide), fun _ => w_in (fun _ => ⟨fun z => absurd rfl z, fun _ => hG h ⟨nr, nt, i⟩⟩) (fun c6 => absurd c6 c5)⟩)⟩)
    have run : ∀ (a : Int32), 0 ≤ x.toInt ∧ x.toInt ≤ 4 → (∀ G : Int32 → xH → Prop, (∀ h2, Ok L xs h2 → G a h2) → ((¬ x = (4 : Int32) → ((¬ nI (cnN (fun k => hI h (99, 0) (12 * j + k)) c) = 0 → ((¬ x = 0 → ((¬ x = (1 : Int32) → ((¬ x = (2 : Int32) → p_M_pace_j174 (lsU true (fun k => hI h (99, 0) (12 * j + k)) c) h G) ∧ (x = (2 : Int32) → p_M_pace_j174 (lsU false (fun k => hI h (99, 0) (12 * j + k)) c) h G))) ∧ (x = (1 : Int32) → (vf_n32 (FP.fdiv (smF (fun k => hI h (99, 0) (12 * j + k)) c) (FP.i2f (nI (cnN (fun k => hI h (99, 0) (12 * j + k)) c))))) ∧ p_M_pace_j174 (FP.fdiv (smF (fun k => hI h (99, 0) (12 * j + k)) c) (FP.i2f (nI (cnN (fun k => hI h (99, 0) (12 * j + k)) c)))) h G))) ∧ (x = 0 → p_M_pace_j174 (smF (fun k => hI h (99, 0) (12 * j + k)) c) h G))) ∧ (nI (cnN (fun k => hI h (99, 0) (12 * j + k)) c) = 0 → G (2143289344 : Int32) h))) ∧ (x = (4 : Int32) → G (nI (cnN (fun k => hI h (99, 0) (12 * j + k)) c)) h))) → F a h := fun a c5 mm => hF _ _ i.vs (fun G hG => by
      unfold p_M_pace
      exact ⟨rfl, w_isRace i.md (fun c => absurd rfl (c j hj)) (fun j' _ _ => ⟨fun z => absurd z (by decide), fun _ => w_in (fun c6 => absurd c5 c6) (fun _ => ⟨fun _ => w_mPace i.m (by omega) c1 c3 (fun k _ => rfl) (mm G hG), fun z => absurd z (by decide)⟩)⟩)⟩)
    generalize (fun k => hI h (99, 0) (12 * j + k)) = lp at lpC run
    have cb : cnN lp c ≤ c := cn_le _ _
    have c0 : nI (cnN lp c) = (0 : Int32) ↔ cnN lp c = 0 := nI_inj (b := 0) (by omega) (by omega)
    have okS' := smF_ok lp c
    refine ⟨fun c5 => out (by rw [ti_lt, e0] at c5; omega), fun c5 => ⟨fun c6 => ⟨rfl, w_cntN lpC ?_⟩, fun c6 => out (by rw [ti_le, e4] at c6; omega)⟩⟩
    have inn : 0 ≤ x.toInt ∧ x.toInt ≤ 4 := by rw [ti_lt, e0] at c5; rw [ti_le, e4] at c6; omega
    have rn := fun a => run a inn
    rw [c0] at rn ⊢
    refine ⟨fun x4 => ⟨fun nz => ?_, fun z => rn _ (fun G hG => ⟨fun _ => ⟨fun y => absurd z y, fun _ => hG h ⟨nr, nt, i⟩⟩, fun y => absurd y x4⟩)⟩, fun x4 => rn _ (fun G hG => ⟨fun y => absurd x4 y, fun _ => hG h ⟨nr, nt, i⟩⟩)⟩
    have nb : ∀ g, isN (bst g lp c) ∧ lsU g lp c = (bst g lp c).toUInt32 := fun g => ⟨(bst_st g lp c).elim (fun y => absurd y.2 nz) (fun y => y.1), by unfold lsU; rw [if_neg nz]⟩
    -- the least or the greatest
    have j54 : (x = 2 ∨ x = 3) → p_T_pace_j54 x (6, j) h F := by
      intro c
      unfold p_T_pace_j54
      refine ⟨fun x3 => ?_, fun x3 => ?_⟩
      · have x2 : x = 2 := c.elim id (fun y => absurd y x3)
        unfold p_T_pace_j65
        refine ⟨rfl, w_best (g := false) lpC (fun z => absurd z (by decide)) (fun _ => rfl) (rn _ (fun G hG => ⟨fun _ => ⟨fun _ => ⟨fun _ => ⟨fun _ => ⟨fun y => absurd x2 y, fun _ => ?_⟩, fun y => by rw [x2] at y; exact absurd y (by decide)⟩, fun y => by rw [x2] at y; exact absurd y (by decide)⟩, fun y => absurd y nz⟩, fun y => absurd y x4⟩))⟩
        unfold p_M_pace_j174
        rw [(nb false).2]
        exact w_bits (nn_x (nb false).1) (hG h ⟨nr, nt, i⟩)
      · unfold p_T_pace_j65
        refine ⟨rfl, w_best (g := true) lpC (fun _ => rfl) (fun z => absurd z (by decide)) (rn _ (fun G hG => ⟨fun _ => ⟨fun _ => ⟨fun _ => ⟨fun _ => ⟨fun _ => ?_, fun y => by rw [x3] at y; exact absurd y (by decide)⟩, fun y => by rw [x3] at y; exact absurd y (by decide)⟩, fun y => by rw [x3] at y; exact absurd y (by decide)⟩, fun y => absurd y nz⟩, fun y => absurd y x4⟩))⟩
        unfold p_M_pace_j174
        rw [(nb true).2]
        exact w_bits (nn_x (nb true).1) (hG h ⟨nr, nt, i⟩)
    refine ⟨fun x2 => j54 (Or.inl x2), fun x2 => ⟨fun x3 => w_sumN lpC ⟨fun x1 => ?_, fun x1 => ?_⟩, fun x3 => j54 (Or.inr x3)⟩⟩
    · have x0 : x = 0 := by
        rw [ti_eq] at x1 x2 x3 x4 ⊢
        rw [show (1 : Int32).toInt = 1 from rfl] at x1
        rw [show (2 : Int32).toInt = 2 from rfl] at x2
        rw [show (3 : Int32).toInt = 3 from rfl] at x3
        rw [e4] at x4
        rw [e0]; omega
      unfold p_T_pace_j84
      have w := w_quot (h := h) (n := 1) okS' (by omega) (by omega) (Q := fun v22 h21 => F v22 h21) ?_
      · exact w
      · have e1 : FP.fdiv (smF lp c) (FP.i2f (nI 1)) = smF lp c := by
          rw [show FP.i2f (nI 1) = FP.Core.fconst1 by decide +kernel]
          exact FP.Core.fdiv_one okS'.1
        rw [e1]
        refine rn _ (fun G hG => ⟨fun _ => ⟨fun _ => ⟨fun y => absurd x0 y, fun _ => ?_⟩, fun y => absurd y nz⟩, fun y => absurd y x4⟩)
        unfold p_M_pace_j174
        exact w_bits okS'.1 (hG h ⟨nr, nt, i⟩)
    · unfold p_T_pace_j84
      refine w_quot (n := cnN lp c) okS' (by omega) (by omega) (rn _ (fun G hG => ⟨fun _ => ⟨fun _ => ⟨fun _ => ⟨fun y => absurd x1 y, fun _ => ?_⟩, fun y => by rw [x1] at y; exact absurd y (by decide)⟩, fun y => absurd y nz⟩, fun y => absurd y x4⟩))
      have hb : ∃ d r, FP.Core.val32 (FP.i2f (nI (cnN lp c))) = .fin false d r ∧ d ≠ 0 := by
        rw [i2f_F (by omega)]
        obtain ⟨c', k, e1, e2, e3⟩ := fF_val (m := cnN lp c) (k := 0) (by omega) (by omega) (by omega)
        refine ⟨c', k, e1, fun z => ?_⟩
        rw [z, Nat.zero_mul] at e2
        rcases Nat.mul_eq_zero.mp e2.symm with y | y
        · omega
        · exact absurd y (Nat.ne_of_gt (Nat.two_pow_pos _))
      have qn := (quo_sgn okS'.1 hb).1
      unfold p_M_pace_j174
      exact ⟨n32 qn, w_bits qn (hG h ⟨nr, nt, i⟩)⟩
end Fl8
