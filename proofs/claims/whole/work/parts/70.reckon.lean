section Reckon
variable {h h0 g : xH} {p : Nat} {U : Nat → Nat} {W : Nat → Bool}
/-- what a settlement comes to: k kind, M lines, U live units, W who wins, lu live units in all, un unit, de deduction, ci carried in -/
def zN (M : Nat) (U : Nat → Nat) (W : Nat → Bool) : Nat := cn (fun l => W l && decide (0 < U l)) M
def zB (M : Nat) (U : Nat → Nat) (W : Nat → Bool) : Int32 := psm (fun l => if W l = true ∧ 0 < U l then nI (U l) else 0) M
def zT (lu un de : Int32) : Int32 := ((((lu * un).toInt64) * (de.toInt64)) / (1000 : Int64)).toInt32
def zE (lu un de ci : Int32) : Int32 := (lu * un - zT lu un de) + ci
def mx0 (x : Int32) : Int32 := if 0 < x then x else 0
def zA (M : Nat) (U : Nat → Nat) (W : Nat → Bool) (lu un de ci : Int32) : Int32 := zE lu un de ci - zB M U W * un
def zC (k M : Nat) (U : Nat → Nat) (W : Nat → Bool) (lu un de ci : Int32) : Int32 := if k = 1 then mx0 (-(zA M U W lu un de ci)) else 0
def zH (k M : Nat) (U : Nat → Nat) (W : Nat → Bool) (lu un de ci : Int32) : Int32 := if k = 1 then mx0 (zA M U W lu un de ci) else zE lu un de ci
def zD (k M : Nat) (U : Nat → Nat) (W : Nat → Bool) (lu un de ci : Int32) (l : Nat) : Int32 := (if k = 1 then un else 0) + ((((zH k M U W lu un de ci / nI (zN M U W)) / nI (U l)) / (10 : Int32)) * (10 : Int32))
def zU (k M : Nat) (U : Nat → Nat) (W : Nat → Bool) (lu un de ci : Int32) : Int32 := psm (fun l => if W l = true ∧ 0 < U l then nI (U l) * zD k M U W lu un de ci l else 0) M
theorem w_max0 {x : Int32} {Q : Int32 → xH → Prop} (q : Q (mx0 x) h) : p_Jm_max 0 x h Q := by
  unfold p_Jm_max
  unfold mx0 at q
  have e0 : (0 : Int32).toInt = 0 := rfl
  refine ⟨fun c => ?_, fun c => ?_⟩
  · rw [if_pos (by rw [ti_lt] at c ⊢; exact c)] at q; exact q
  · rw [if_neg (by rw [ti_lt] at c ⊢; exact c)] at q; exact q
theorem w_max1 {x : Int32} (hx : 1 ≤ x.toInt) {Q : Int32 → xH → Prop} (q : Q x h) : p_Jm_max x 1 h Q := by
  have e1 : (1 : Int32).toInt = 1 := rfl
  unfold p_Jm_max
  refine ⟨fun c => ?_, fun _ => q⟩
  rw [ti_lt, e1] at c; omega
theorem en_zN {ln : Nat → Nat} {n M : Nat} (en : En ln n M (fun l => W l = true ∧ 0 < U l)) : n = zN M U W := (en_card n _ (en.congr (fun l _ => by simp))).symm
/-- the places that a settlement writes -/
def K9 : xN → Nat → Prop := fun n j => (n = (8, 0) ∧ 2 ≤ j) ∨ n = (24, 0) ∨ n = (25, 0)
theorem K8_9 : ∀ n j, K8 n j → K9 n j := fun n j z => z.elim (fun z => Or.inl ⟨z.1, by omega⟩) (fun z => Or.inr (Or.inl z))
theorem w_unitsOf {n : Nat} {ln : Nat → Nat} (P : PH h p U) (t : TK h n ln) (hn : n ≤ 200) (hl : ∀ i, i < n → ln i < lls p) {Q : Int32 → xH → Prop} (q : Q (psm (fun i => nI (U (ln i))) n) h) : p_Se_unitsOfTakers (8, 0) (5, p) h Q := by
  obtain ⟨e1, r6, s17, e17, r0, r1, s24, s25⟩ := P
  have l2 := lls_le (p := p)
  unfold p_Se_unitsOfTakers
  refine ⟨n + 1, ?_⟩
  have key : ∀ (m a : Nat), a + m = n → p_Se_unitsOfTakers_L4 (8, 0) (5, p) (fun x h => Q x h) Q (m + 1) (psm (fun i => nI (U (ln i))) a) (nI a) h := by
    intro m
    induction m with
    | zero =>
      intro a ha
      unfold p_Se_unitsOfTakers_L4
      rw [t.1]
      refine ⟨rfl, fun _ => ?_, fun c => absurd (by rw [le_nn (by omega) (by omega)]; omega) c⟩
      rw [show a = n by omega]; exact q
    | succ m ih =>
      intro a ha
      have la := hl a (by omega)
      have ih2 := ih (a + 1) (by omega)
      unfold psm at ih2
      unfold p_Se_unitsOfTakers_L4
      rw [t.1, r0, s24, r6, s17, cl_n (by omega), t.2 a (by omega), cl_n (by omega), e17 _ la]
      refine ⟨rfl, fun c => ?_, fun _ => ⟨rfl, rfl, in_n (by omega) (by omega), rfl, in_n (by omega) (by omega), fun w hw x hx => ?_⟩⟩
      · rw [le_nn (by omega) (by omega)] at c; omega
      · rw [hw, hx, nI_1]; exact ih2
  exact key n 0 (by omega)
theorem w_L54 {n : Nat} {ln : Nat → Nat} {base sh net : Int32} (hn : n ≤ 200) (hn0 : 0 < n) (hl : ∀ i, i < n → ln i < lls p ∧ 0 < U (ln i)) (hU : ∀ l, U l ≤ 200000) (P : PH h p U) (t : TK h n ln) (e8 : hI h (8, 0) 8 = 0) {K : xH → Prop} {Q : xH → Prop}
    (k : ∀ h', Sm (fun m j => m = (25, 0) ∨ (m = (8, 0) ∧ j = 8)) h h' → (∀ i, i < n → hI h' (25, 0) i = base + ((((sh / nI n) / nI (U (ln i))) / (10 : Int32)) * (10 : Int32))) → hI h' (8, 0) 8 = psm (fun i => nI (U (ln i)) * (base + ((((sh / nI n) / nI (U (ln i))) / (10 : Int32)) * (10 : Int32)))) n → K h') : ∃ f, p_Se_share_L54 (8, 0) (5, p) net base sh K Q f (0 : Int32) h := by
  obtain ⟨e1, r6, s17, e17, r0, r1, s24, s25⟩ := P
  have l2 := lls_le (p := p)
  have nn : ¬ nI n = (0 : Int32) := fun z => by
    have z' : nI n = nI 0 := z
    rw [nI_inj (by omega) (by omega)] at z'; omega
  refine ⟨n + 1, ?_⟩
  have key : ∀ (m a : Nat) (h' : xH), a + m = n → Sm (fun m j => m = (25, 0) ∨ (m = (8, 0) ∧ j = 8)) h h' → (∀ i, i < a → hI h' (25, 0) i = base + ((((sh / nI n) / nI (U (ln i))) / (10 : Int32)) * (10 : Int32))) → hI h' (8, 0) 8 = psm (fun i => nI (U (ln i)) * (base + ((((sh / nI n) / nI (U (ln i))) / (10 : Int32)) * (10 : Int32)))) a → p_Se_share_L54 (8, 0) (5, p) net base sh K Q (m + 1) (nI a) h' := by
    intro m
    induction m with
    | zero =>
      intro a h' ha s f8 fd
      have t1 : hI h' (8, 0) 2 = nI n := by rw [s.1 _ _ (by simp)]; exact t.1
      unfold p_Se_share_L54
      rw [t1]
      refine ⟨rfl, fun _ => k h' s (fun i hi => f8 i (by omega)) (by rw [fd, show a = n by omega]), fun c => absurd (by rw [le_nn (by omega) (by omega)]; omega) c⟩
    | succ m ih =>
      intro a h' ha s f8 fd
      have la := hl a (by omega)
      have ua := hU (ln a)
      have t1 : hI h' (8, 0) 2 = nI n := by rw [s.1 _ _ (by simp)]; exact t.1
      have t2 : hI h' (24, 0) a = nI (ln a) := by rw [s.1 _ _ (by simp)]; exact t.2 a (by omega)
      have t3 : hI h' (17, p) (ln a) = nI (U (ln a)) := by rw [s.1 _ _ (by simp)]; exact e17 _ la.1
      have u0 : ¬ nI (U (ln a)) = (0 : Int32) := fun z => by
        have z' : nI (U (ln a)) = nI 0 := z
        rw [nI_inj (by omega) (by omega)] at z'; omega
      unfold p_Se_share_L54
      rw [t1, s.2.1, s.2.2, r0, s24, r6, s17, cl_n (by omega), t2, cl_n (by omega), t3]
      refine ⟨rfl, fun c => ?_, fun _ => ⟨rfl, rfl, in_n (by omega) (by omega), rfl, in_n (by omega) (by omega), w_max1 ?_ ?_⟩⟩
      · rw [le_nn (by omega) (by omega)] at c; omega
      · rw [ti_n (by omega)]; omega
      show _ ∧ _
      rw [t1, s.2.1, s.2.2, r1, s25]
      refine ⟨nn, u0, rfl, in_n (by omega) (by omega), fun h16 q16 => ?_⟩
      have R16 : hR h16 = hR h := by rw [q16]; exact s.2.2
      have S16 : hS h16 = hS h := by rw [q16]; exact s.2.1
      have w25 : hI h16 (25, 0) a = base + ((((sh / nI n) / nI (U (ln a))) / (10 : Int32)) * (10 : Int32)) := by rw [q16, hI_sI, if_pos ⟨rfl, rfl⟩]
      have w8 : hI h16 (8, 0) 8 = hI h' (8, 0) 8 := by rw [q16, hI_sI, if_neg (by simp)]
      rw [R16, S16, r1, s25, w25, w8, fd]
      refine ⟨rfl, in_n (by omega) (by omega), fun h20 q20 x hx => ?_⟩
      rw [hx, nI_1]
      refine ih (a + 1) h20 (by omega) ?_ (fun i hi => ?_) ?_
      · rw [q20, q16]; exact (s.si _ (Or.inl rfl)).si _ (Or.inr ⟨rfl, rfl⟩)
      · rw [q20, hI_sI, if_neg (by simp)]
        by_cases e : i = a
        · subst e; exact w25
        · rw [q16, hI_sI, if_neg (fun z => e z.2)]; exact f8 i (by omega)
      · rw [q20, hI_sI, if_pos ⟨rfl, rfl⟩]; rfl
  exact key n 0 h (by omega) (Sm.rf _ h) (fun i hi => by omega) e8
/-- what lies in the settlement once it is reckoned -/
def RkR (h' : xH) (k M : Nat) (U : Nat → Nat) (W : Nat → Bool) (vo : Prop) (lu un de ci : Int32) : Prop :=
  ∃ ln, En ln (zN M U W) M (fun l => W l = true ∧ 0 < U l) ∧ TK h' (zN M U W) ln ∧
    ((vo ∨ (zN M U W = 0 ∧ k ≠ 3)) ∧ hI h' (8, 0) 3 = 1 ∧ hI h' (8, 0) 4 = 0 ∧ hI h' (8, 0) 5 = ci ∧ hI h' (8, 0) 6 = 0 ∧ hI h' (8, 0) 7 = 0 ∧ hI h' (8, 0) 8 = 0 ∨
     ¬ (vo ∨ (zN M U W = 0 ∧ k ≠ 3)) ∧ zN M U W = 0 ∧ hI h' (8, 0) 3 = 0 ∧ hI h' (8, 0) 4 = zT lu un de ∧ hI h' (8, 0) 5 = zE lu un de ci ∧ hI h' (8, 0) 6 = 0 ∧ hI h' (8, 0) 7 = 0 ∧ hI h' (8, 0) 8 = 0 ∨
     ¬ (vo ∨ (zN M U W = 0 ∧ k ≠ 3)) ∧ zN M U W ≠ 0 ∧ hI h' (8, 0) 3 = 0 ∧ hI h' (8, 0) 4 = zT lu un de ∧ hI h' (8, 0) 5 = 0 ∧ hI h' (8, 0) 6 = (zE lu un de ci + zC k M U W lu un de ci) - zU k M U W lu un de ci ∧ hI h' (8, 0) 7 = zC k M U W lu un de ci ∧ hI h' (8, 0) 8 = zU k M U W lu un de ci ∧ ∀ i, i < zN M U W → hI h' (25, 0) i = zD k M U W lu un de ci (ln i))
theorem w_share (B : UB p U) (P : PH h p U) {ln : Nat → Nat} (t : TK h (zN (lls p) U W) ln) (en : En ln (zN (lls p) U W) (lls p) (fun l => W l = true ∧ 0 < U l)) (n0 : zN (lls p) U W ≠ 0) {lu un de ci : Int32} (e5 : hI h (5, p) 5 = un) (e7 : hI h (8, 0) 7 = 0) (e8 : hI h (8, 0) 8 = 0) {Q : xH → Prop}
    (q : ∀ h', Sm (fun m j => m = (25, 0) ∨ (m = (8, 0) ∧ 6 ≤ j)) h h' → hI h' (8, 0) 6 = (zE lu un de ci + zC (kf p) (lls p) U W lu un de ci) - zU (kf p) (lls p) U W lu un de ci → hI h' (8, 0) 7 = zC (kf p) (lls p) U W lu un de ci → hI h' (8, 0) 8 = zU (kf p) (lls p) U W lu un de ci → (∀ i, i < zN (lls p) U W → hI h' (25, 0) i = zD (kf p) (lls p) U W lu un de ci (ln i)) → Q h') : p_Se_share (8, 0) (5, p) (zE lu un de ci) h Q := by
  have hk := kf_le (p := p)
  have n1 : nI (kf p) = (1 : Int32) ↔ kf p = 1 := nI_inj (b := 1) (by omega) (by omega)
  have hn : zN (lls p) U W ≤ 200 := B.2 ln _ _ en (fun l _ z => z.2)
  have es : ∀ f : Nat → Int32, psm (fun i => f (ln i)) (zN (lls p) U W) = psm (fun l => if W l = true ∧ 0 < U l then f l else 0) (lls p) := fun f => en_sum f _ _ en
  unfold p_Se_share
  rw [P.1, n1]
  refine ⟨rfl, fun k1 => ?_, fun k1 v29 h29 => ⟨rfl, w_unitsOf P t hn (fun i hi => (en.1 i hi).1) (fun v34 h34 => w_max0 (fun h38 q38 => w_max0 ?_))⟩⟩
  · have eC : zC (kf p) (lls p) U W lu un de ci = 0 := by unfold zC; rw [if_neg k1]
    have eH : zH (kf p) (lls p) U W lu un de ci = zE lu un de ci := by unfold zH; rw [if_neg k1]
    have eD : ∀ l, zD (kf p) (lls p) U W lu un de ci l = 0 + ((((zE lu un de ci / nI (zN (lls p) U W)) / nI (U l)) / (10 : Int32)) * (10 : Int32)) := fun l => by unfold zD; rw [if_neg k1, eH]
    refine w_L54 hn (by omega) (fun i hi => ⟨(en.1 i hi).1, (en.1 i hi).2.2⟩) B.1 P t e8 (fun h' s' f25 f8 => ⟨rfl, fun h26 q26 => ?_⟩)
    have f8' : hI h' (8, 0) 8 = zU (kf p) (lls p) U W lu un de ci := by
      rw [f8, es (fun l => nI (U l) * (0 + ((((zE lu un de ci / nI (zN (lls p) U W)) / nI (U l)) / (10 : Int32)) * (10 : Int32))))]
      unfold zU
      simp only [eD]
    have f7 : hI h' (8, 0) 7 = 0 := by rw [s'.1 _ _ (by simp)]; exact e7
    rw [f7, f8'] at q26
    refine q h26 ?_ ?_ ?_ ?_ (fun i hi => ?_)
    · rw [q26]; exact (s'.mono (fun m j z => z.imp id (fun z => ⟨z.1, by omega⟩))).si _ (Or.inr ⟨rfl, by omega⟩)
    · rw [q26, hI_sI, if_pos ⟨rfl, rfl⟩, eC]
    · rw [q26, hI_sI, if_neg (by simp), f7, eC]
    · rw [q26, hI_sI, if_neg (by simp)]; exact f8'
    · rw [q26, hI_sI, if_neg (by simp), f25 i hi, eD]
  · rw [es (fun l => nI (U l)), e5] at h34
    have eA : v34 = zA (lls p) U W lu un de ci := h34
    rw [eA]
    rw [eA] at q38
    have eC : zC (kf p) (lls p) U W lu un de ci = mx0 (-(zA (lls p) U W lu un de ci)) := by unfold zC; rw [if_pos k1]
    have eH : zH (kf p) (lls p) U W lu un de ci = mx0 (zA (lls p) U W lu un de ci) := by unfold zH; rw [if_pos k1]
    rw [e5] at h29
    have eD : ∀ l, zD (kf p) (lls p) U W lu un de ci l = v29 + ((((mx0 (zA (lls p) U W lu un de ci) / nI (zN (lls p) U W)) / nI (U l)) / (10 : Int32)) * (10 : Int32)) := fun l => by unfold zD; rw [if_pos k1, eH, h29]
    have s38 : Sm (fun m j => m = (25, 0) ∨ (m = (8, 0) ∧ 6 ≤ j)) h h38 := by rw [q38]; exact (Sm.rf _ h).si _ (Or.inr ⟨rfl, by omega⟩)
    have P38 : PH h38 p U := by
      obtain ⟨a1, a2, a3, a4, a5, a6, a7, a8⟩ := P
      unfold PH
      rw [s38.2.1, s38.2.2, s38.1 (5, p) 1 (by simp)]
      exact ⟨a1, a2, a3, fun l hl => by rw [s38.1 _ _ (by simp)]; exact a4 l hl, a5, a6, a7, a8⟩
    have t38 : TK h38 (zN (lls p) U W) ln := ⟨by rw [s38.1 _ _ (by simp)]; exact t.1, fun i hi => by rw [s38.1 _ _ (by simp)]; exact t.2 i hi⟩
    refine w_L54 hn (by omega) (fun i hi => ⟨(en.1 i hi).1, (en.1 i hi).2.2⟩) B.1 P38 t38 (by rw [q38, hI_sI, if_neg (by simp)]; exact e8) (fun h' s' f25 f8 h26 q26 => ?_)
    have f8' : hI h' (8, 0) 8 = zU (kf p) (lls p) U W lu un de ci := by
      rw [f8, es (fun l => nI (U l) * (v29 + ((((mx0 (zA (lls p) U W lu un de ci) / nI (zN (lls p) U W)) / nI (U l)) / (10 : Int32)) * (10 : Int32))))]
      unfold zU
      simp only [eD]
    have f7 : hI h' (8, 0) 7 = zC (kf p) (lls p) U W lu un de ci := by rw [s'.1 _ _ (by simp), q38, hI_sI, if_pos ⟨rfl, rfl⟩, eC]
    rw [f7, f8'] at q26
    refine q h26 ?_ ?_ ?_ ?_ (fun i hi => ?_)
    · rw [q26]; exact (s38.tr (s'.mono (fun m j z => z.imp id (fun z => ⟨z.1, by omega⟩)))).si _ (Or.inr ⟨rfl, by omega⟩)
    · rw [q26, hI_sI, if_pos ⟨rfl, rfl⟩]
    · rw [q26, hI_sI, if_neg (by simp), f7]
    · rw [q26, hI_sI, if_neg (by simp)]; exact f8'
    · rw [q26, hI_sI, if_neg (by simp), f25 i hi, eD]
end Reckon
