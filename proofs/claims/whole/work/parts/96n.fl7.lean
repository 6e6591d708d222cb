section Fl7
variable {L : Nat} {xs : Nat → Int32} {nr nt : Nat} {h : xH}
noncomputable def isB (x : Int32) : Bool := @decide (isN x) (Classical.propDecidable _)
theorem isB_t {x : Int32} (n : isN x) : isB x = true := @decide_eq_true _ (Classical.propDecidable _) n
theorem isB_f {x : Int32} (n : ¬ isN x) : isB x = false := @decide_eq_false _ (Classical.propDecidable _) n
/-- the numbers among laps: how many, their sum, the least and the greatest -/
noncomputable def cnN (lp : Nat → Int32) (k : Nat) : Nat := cn (fun i => isB (lp i)) k
noncomputable def smF (lp : Nat → Int32) : Nat → UInt32
  | 0 => 0
  | k + 1 => if isB (lp k) = true then FP.fadd (smF lp k) (lp k).toUInt32 else smF lp k
def kyI (x : Int32) : Int := FP.Core.fkey x.toUInt32
noncomputable def bst (g : Bool) (lp : Nat → Int32) : Nat → Int32
  | 0 => 2143289344
  | k + 1 => if isB (lp k) = true then (if bst g lp k = 2143289344 ∨ (if g = true then kyI (bst g lp k) < kyI (lp k) else kyI (lp k) < kyI (bst g lp k)) then lp k else bst g lp k) else bst g lp k
theorem nn_x {x : Int32} (n : isN x) : FP.Core.val32 x.toUInt32 ≠ .nan := by rw [v_x x n]; exact FP.Core.Datum.noConfusion
theorem mk_no : ¬ isN 2143289344 := fun z => z (by decide)
theorem smF_ok (lp : Nat → Int32) : ∀ k, okS (smF lp k)
  | 0 => ⟨by show FP.Core.val32 0 ≠ .nan; decide +kernel, by show (0 : UInt32) ≠ 2147483648; decide⟩
  | k + 1 => by
    unfold smF
    by_cases c : isN (lp k)
    · rw [if_pos (isB_t c)]
      exact okS_add (smF_ok lp k) ((isN_fin _).mp c)
    · rw [if_neg (by rw [isB_f c]; decide)]
      exact smF_ok lp k
theorem bst_st (g : Bool) (lp : Nat → Int32) : ∀ k, (bst g lp k = 2143289344 ∧ cnN lp k = 0) ∨ (isN (bst g lp k) ∧ 0 < cnN lp k)
  | 0 => Or.inl ⟨rfl, rfl⟩
  | k + 1 => by
    have ih := bst_st g lp k
    have ec : cnN lp (k + 1) = cnN lp k + (if isB (lp k) = true then 1 else 0) := rfl
    rw [ec]
    unfold bst
    by_cases c : isN (lp k)
    · rw [if_pos (isB_t c), if_pos (isB_t c)]
      by_cases d : bst g lp k = 2143289344 ∨ (if g = true then kyI (bst g lp k) < kyI (lp k) else kyI (lp k) < kyI (bst g lp k))
      · rw [if_pos d]; exact Or.inr ⟨c, by omega⟩
      · rw [if_neg d]
        rcases ih with y | y
        · exact absurd (Or.inl y.1) d
        · exact Or.inr ⟨y.1, by omega⟩
    · have f := isB_f c
      rw [f, if_neg (by decide), if_neg (by decide)]
      exact ih
theorem bst_0 {g : Bool} {lp : Nat → Int32} {k : Nat} : bst g lp k = 2143289344 ↔ cnN lp k = 0 := by
  rcases bst_st g lp k with y | y
  · exact ⟨fun _ => y.2, fun _ => y.1⟩
  · refine ⟨fun z => ?_, fun z => by omega⟩
    rw [z] at y
    exact absurd y.1 mk_no
/-- laps of a race in the class -/
def LpC (h : xH) (j c : Nat) (lp : Nat → Int32) : Prop := hI h (6, j) 5 = nI c ∧ c ≤ 12 ∧ hR h (6, j) 4 = (22, j) ∧ hS h (22, j) = 13 ∧ ∀ k, k < c → hI h (22, j) k = lp k
theorem w_cntN {j c : Nat} {lp : Nat → Int32} (l : LpC h j c lp) {Q : Int32 → xH → Prop} (q : Q (nI (cnN lp c)) h) : p_R_countNumbers (6, j) h Q := by
  obtain ⟨l1, l2, l3, l4, l5⟩ := l
  unfold p_R_countNumbers
  have key : ∀ (m k : Nat), k + m = c → p_R_countNumbers_L4 (6, j) (fun (x16 : Int32) (h17 : xH) => Q x16 h17) Q (m + 1) (nI (cnN lp k)) (nI k) h := by
    intro m
    induction m with
    | zero =>
      intro k hk
      have : k = c := by omega
      subst this
      unfold p_R_countNumbers_L4
      rw [l1]
      exact ⟨rfl, fun _ => q, fun z => absurd (by rw [le_nn (by omega) (by omega)]; omega) z⟩
    | succ m ih =>
      intro k hk
      have ec : cnN lp (k + 1) = cnN lp k + (if isB (lp k) = true then 1 else 0) := rfl
      have := ih (k + 1) (by omega)
      unfold p_R_countNumbers_L4
      rw [l1, l3, l4, cl_n (by omega), l5 k (by omega)]
      refine ⟨rfl, fun z => absurd z (by rw [le_nn (by omega) (by omega)]; omega), fun _ => ⟨rfl, in_n (by omega) (by omega), w_isNum (fun no => ⟨fun _ v8 e8 v10 e10 => ?_, fun z => absurd rfl z⟩) (fun yes => ⟨fun z => absurd z (by decide), fun _ v12 e12 v14 e14 => ?_⟩)⟩⟩
      · rw [ec, isB_f no, if_neg (by decide)] at this
        rw [e8, e10, nI_1, Int32.add_zero]; exact this
      · rw [ec, isB_t yes, if_pos rfl] at this
        rw [e12, e14, nI_1, nI_1]; exact this
  exact ⟨c + 1, key c 0 (by omega)⟩
theorem w_sumN {j c : Nat} {lp : Nat → Int32} (l : LpC h j c lp) {Q : UInt32 → xH → Prop} (q : Q (smF lp c) h) : p_R_sumOfNumbers (6, j) h Q := by
  obtain ⟨l1, l2, l3, l4, l5⟩ := l
  unfold p_R_sumOfNumbers
  have key : ∀ (m k : Nat), k + m = c → p_R_sumOfNumbers_L4 (6, j) (fun (x19 : UInt32) (h20 : xH) => Q x19 h20) Q (m + 1) (smF lp k) (nI k) h := by
    intro m
    induction m with
    | zero =>
      intro k hk
      have : k = c := by omega
      subst this
      unfold p_R_sumOfNumbers_L4
      rw [l1]
      exact ⟨rfl, fun _ => q, fun z => absurd (by rw [le_nn (by omega) (by omega)]; omega) z⟩
    | succ m ih =>
      intro k hk
      have ec : smF lp (k + 1) = if isB (lp k) = true then FP.fadd (smF lp k) (lp k).toUInt32 else smF lp k := rfl
      have := ih (k + 1) (by omega)
      have ok := smF_ok lp (k + 1)
      unfold p_R_sumOfNumbers_L4
      rw [l1, l3, l4, cl_n (by omega), l5 k (by omega)]
      refine ⟨rfl, fun z => absurd z (by rw [le_nn (by omega) (by omega)]; omega), fun _ => ⟨rfl, in_n (by omega) (by omega), w_isNum (fun no => ⟨fun _ v8 e8 => ?_, fun z => absurd rfl z⟩) (fun yes => ⟨fun z => absurd z (by decide), fun _ => ?_⟩)⟩⟩
      · rw [ec, isB_f no, if_neg (by decide)] at this
        rw [e8, nI_1]; exact this
      · rw [ec, isB_t yes, if_pos rfl] at this ok
        rw [l3, l4, l5 k (by omega)]
        refine ⟨rfl, in_n (by omega) (by omega), w_toF yes ⟨n32 ok.1, fun v15 e15 v17 e17 => ?_⟩⟩
        rw [e15, e17, nI_1]; exact this
  exact ⟨c + 1, key c 0 (by omega)⟩
theorem w_best {j c : Nat} {lp : Nat → Int32} (l : LpC h j c lp) {g : Bool} {gv : Int32} (hg1 : g = true → gv = 1) (hg0 : g = false → gv = 0) {Q : Int32 → xH → Prop} (q : Q (bst g lp c) h) : p_R_extremeLap (6, j) gv h Q := by
  obtain ⟨l1, l2, l3, l4, l5⟩ := l
  unfold p_R_extremeLap
  have key : ∀ (m k : Nat), k + m = c → p_R_extremeLap_L5 (6, j) gv (fun (x41 : Int32) (h42 : xH) => Q x41 h42) Q (m + 1) (bst g lp k) (nI k) h := by
    intro m
    induction m with
    | zero =>
      intro k hk
      have : k = c := by omega
      subst this
      unfold p_R_extremeLap_L5
      rw [l1]
      exact ⟨rfl, fun _ => q, fun z => absurd (by rw [le_nn (by omega) (by omega)]; omega) z⟩
    | succ m ih =>
      intro k hk
      have ec : bst g lp (k + 1) = if isB (lp k) = true then (if bst g lp k = 2143289344 ∨ (if g = true then kyI (bst g lp k) < kyI (lp k) else kyI (lp k) < kyI (bst g lp k)) then lp k else bst g lp k) else bst g lp k := rfl
      have nx := ih (k + 1) (by omega)
      have st := bst_st g lp k
      generalize hb : bst g lp k = b at ec st
      unfold p_R_extremeLap_L5
      rw [l1, l3, l4, cl_n (by omega), l5 k (by omega)]
      refine ⟨rfl, fun z => absurd z (by rw [le_nn (by omega) (by omega)]; omega), fun _ => ⟨rfl, in_n (by omega) (by omega), w_isNum (fun no => ⟨fun _ v8 e8 => ?_, fun z => absurd rfl z⟩) (fun yes => ⟨fun z => absurd z (by decide), fun _ => ?_⟩)⟩⟩
      · rw [ec, isB_f no, if_neg (by decide)] at nx
        rw [e8, nI_1]; exact nx
      rw [ec, if_pos (isB_t yes)] at nx
      -- the join where the choice is made
      have j68 : ∀ (s0 l5' l4' : Int32), (l4' = 0 → b ≠ 2143289344) → (l4' ≠ 0 → b = 2143289344) → (b ≠ 2143289344 → (g = true → l5' = b ∧ s0 = lp k) ∧ (g = false → l5' = lp k ∧ s0 = b)) → p_R_extremeLap_j68 s0 (6, j) gv b (nI k) l4' l5' (p_R_extremeLap_L5 (6, j) gv (fun (x41 : Int32) (h42 : xH) => Q x41 h42) Q (m + 1)) h Q := by
        intro s0 l5' l4' y1 y2 y3
        unfold p_R_extremeLap_j68
        rw [l3, l4, cl_n (by omega), l5 k (by omega)]
        refine ⟨fun f => ⟨rfl, rfl, in_n (by omega) (by omega), fun v20 e20 v22 e22 => ?_⟩, fun f => ?_⟩
        · rw [if_pos (Or.inl (y2 f))] at nx
          rw [e20, e22, nI_1]; exact nx
        · have bn := y1 f
          have nb : isN b := st.elim (fun y => absurd y.1 bn) (fun y => y.1)
          have ab := y3 bn
          have n5 : isN l5' ∧ isN s0 := by
            by_cases gg : g = true
            · have := ab.1 gg; rw [this.1, this.2]; exact ⟨nb, yes⟩
            · have := ab.2 (by simpa using gg); rw [this.1, this.2]; exact ⟨yes, nb⟩
          refine w_toF n5.1 (w_toF n5.2 ?_)
          have cm : (FP.Core.fkey l5'.toUInt32 < FP.Core.fkey s0.toUInt32) ↔ (if g = true then kyI b < kyI (lp k) else kyI (lp k) < kyI b) := by
            by_cases gg : g = true
            · have := ab.1 gg; rw [this.1, this.2, if_pos gg]; exact Iff.rfl
            · have := ab.2 (by simpa using gg); rw [this.1, this.2, if_neg gg]; exact Iff.rfl
          rw [cvk (nn_x n5.1) (nn_x n5.2), t3_ge, cm]
          refine ⟨fun w v29 e29 => ?_, fun w => ?_⟩
          · rw [if_neg (fun z => z.elim bn w)] at nx
            rw [e29, nI_1]; exact nx
          · rw [l3, l4, l5 k (by omega)]
            refine ⟨rfl, rfl, in_n (by omega) (by omega), fun v34 e34 v36 e36 => ?_⟩
            rw [if_pos (Or.inr (Decidable.not_not.mp w))] at nx
            rw [e34, e36, nI_1]; exact nx
      have j36 : ∀ s0 : Int32, (s0 = 0 → b ≠ 2143289344) → (s0 ≠ 0 → b = 2143289344) → p_R_extremeLap_j36 s0 (6, j) gv b (nI k) (p_R_extremeLap_L5 (6, j) gv (fun (x41 : Int32) (h42 : xH) => Q x41 h42) Q (m + 1)) h Q := by
        intro s0 y1 y2
        unfold p_R_extremeLap_j36
        by_cases gg : g = true
        · have j68' := j68
          rw [hg1 gg] at j68' ⊢
          refine ⟨fun z => absurd z (by decide), fun _ => ?_⟩
          unfold p_R_extremeLap_j52
          rw [l3, l4, cl_n (by omega), l5 k (by omega)]
          exact ⟨fun z => absurd z (by decide), fun _ => ⟨rfl, rfl, in_n (by omega) (by omega), j68' _ _ _ y1 y2 (fun _ => ⟨fun _ => ⟨rfl, rfl⟩, fun z => by rw [gg] at z; exact absurd z (by decide)⟩)⟩⟩
        · have j68' := j68
          rw [hg0 (by simpa using gg)] at j68' ⊢
          rw [l3, l4, cl_n (by omega), l5 k (by omega)]
          refine ⟨fun _ => ⟨rfl, rfl, in_n (by omega) (by omega), ?_⟩, fun z => absurd rfl z⟩
          unfold p_R_extremeLap_j52
          exact ⟨fun _ => j68' _ _ _ y1 y2 (fun _ => ⟨fun z => absurd z gg, fun _ => ⟨rfl, rfl⟩⟩), fun z => absurd rfl z⟩
      exact ⟨fun z => j36 0 (fun _ => z) (fun y => absurd rfl y), fun z => j36 1 (fun y => absurd y (by decide)) (fun _ => z)⟩
  exact ⟨c + 1, key c 0 (by omega)⟩
end Fl7
