section Satch
variable {L : Nat} {xs : Nat → Int32} {nr nt : Nat} {v h g : xH}
theorem w_isSatchel {x : Int32} {Q : Int32 → xH → Prop} (no : (∀ w, w < 4 → x ≠ nI w) → Q 0 h) (yes : ∀ w, w < 4 → x = nI w → Q 1 h) : p_T_isSatchel x h Q := by
  have e0 : (0 : Int32).toInt = 0 := rfl
  have e6 : (4 : Int32).toInt = 4 := rfl
  unfold p_T_isSatchel
  refine ⟨fun c => no (fun w hw e => ?_), fun c => ⟨fun c2 => no (fun w hw e => ?_), fun c2 => ?_⟩⟩
  · rw [e, ti_lt, ti_n (by omega), e0] at c; omega
  · rw [e, ti_le, ti_n (by omega), e6] at c2; omega
  · rw [ti_lt, e0] at c
    rw [ti_le, e6] at c2
    refine yes x.toInt.toNat (by omega) ?_
    rw [ti_eq, ti_n (by omega)]; omega
theorem w_mSatchel {x : Int32} {Q : Int32 → xH → Prop} (no : (∀ w, w < 4 → x ≠ nI w) → Q 0 h) (yes : ∀ w, w < 4 → x = nI w → Q 1 h) : p_M_isSatchel x h Q := by
  have e0 : (0 : Int32).toInt = 0 := rfl
  have e5 : (3 : Int32).toInt = 3 := rfl
  unfold p_M_isSatchel
  refine w_in (fun c => ⟨Or.inl rfl, no (fun w hw e => ?_)⟩) (fun c => ⟨Or.inr rfl, ?_⟩)
  · rw [e, ti_n (by omega), e0, e5] at c; omega
  · rw [e0, e5] at c
    refine yes x.toInt.toNat (by omega) ?_
    rw [ti_eq, ti_n (by omega)]; omega
theorem ix10 {a b : Nat} : (10 : Int32) * nI a + nI b = nI (10 * a + b) := ix_n 10 a b
/-- what bars a place of a satchel -/
def lkP (I : xN → Nat → Int32) (s : Nat) (y : Int32) : Nat := if I (92, 0) s = 0 then 1 else if 0 ≤ y.toInt ∧ y.toInt < (I (94, 0) s).toInt then 0 else 2
theorem lkP_lt (I : xN → Nat → Int32) (s : Nat) (y : Int32) : lkP I s y < 7 := by
  unfold lkP; repeat' split
  all_goals omega
theorem satR (i : Inv L xs nr nt v) {s : Nat} (hs : s < 4) : hR v (11, 0) 4 = (31, 0) ∧ hS v (31, 0) = 5 ∧ hR v (31, 0) s = (7, s) ∧ hR v (7, s) 0 = (23, s) ∧ hS v (23, s) = 11 := ⟨xR_11_0_4 i.x, xS_31_0 i.x, (i.d.2.2 s hs).1, (i.d.2.2 s hs).2.1, (i.d.2.2 s hs).2.2⟩
theorem w_refusePlace (i : Inv L xs nr nt v) (c0 : SC v h) {s : Nat} (hs : s < 4) {y : Int32} {Q : Int32 → xH → Prop} (q : Q (cd (lkP (hI v) s y)) (hp h (lkP (hI v) s y))) : p_T_refusePlace (11, 0) (nI s) y h Q := by
  have e0 : (0 : Int32).toInt = 0 := rfl
  obtain ⟨r1, r2, r3, r4, r5⟩ := satR i hs
  unfold p_T_refusePlace
  rw [c0.2.2, c0.2.1, r1, r2, cl_n (by omega), r3, c0.i 7 s 2]
  refine ⟨rfl, rfl, in_n (by omega) (by omega), rfl, ?_⟩
  rcases i.vx s hs with ⟨v1, v2⟩ | ⟨v1, n, f, n1, f1, v2, v3, -⟩
  · rw [v2]
    have k1 : lkP (hI v) s y = 1 := by unfold lkP; rw [if_pos v1]
    rw [k1] at q
    exact ⟨fun z => absurd rfl z, fun _ => w_found (SC.x i c0) (k := 1) (by omega) q⟩
  · rw [v2]
    have ht : (nI n).toInt = n := ti_n (by omega)
    have k1 : lkP (hI v) s y = if 0 ≤ y.toInt ∧ y.toInt < n then 0 else 2 := by
      unfold lkP; rw [if_neg (by rw [v1]; decide), v3, ht]
    refine ⟨fun _ => ⟨fun c => ?_, fun c => ⟨in_n (by omega) (by omega), fun c2 => ?_, fun c2 => ?_⟩⟩, fun z => ?_⟩
    · unfold p_T_refusePlace_j36
      rw [ti_lt, e0] at c
      rw [k1, if_neg (by omega)] at q
      exact ⟨rfl, w_found (SC.x i c0) (k := 2) (by omega) q⟩
    · rw [ti_lt, e0] at c
      rw [ti_lt, ht] at c2
      rw [k1, if_pos (by omega)] at q
      exact q
    · unfold p_T_refusePlace_j36
      rw [ti_lt, ht] at c2
      rw [k1, if_neg (by omega)] at q
      exact ⟨rfl, w_found (SC.x i c0) (k := 2) (by omega) q⟩
    · exfalso
      have := congrArg Int32.toInt z
      rw [ht] at this
      have e9 : (-1 : Int32).toInt = -1 := rfl
      omega
theorem lkP_0 (i : Inv L xs nr nt v) {s : Nat} (hs : s < 4) {y : Int32} (k0 : lkP (hI v) s y = 0) : ∃ n f j, n ≤ 10 ∧ f ≤ 5 ∧ j < n ∧ y = nI j ∧ hI v (92, 0) s = 1 ∧ hI v (7, s) 2 = nI n ∧ hI v (94, 0) s = nI n ∧ hI v (7, s) 1 = nI f ∧ hI v (93, 0) s = nI f ∧ hI v (23, s) j = hI v (95, 0) (10 * s + j) := by
  unfold lkP at k0
  rcases i.vx s hs with ⟨v1, v2⟩ | ⟨v1, n, f, n1, f1, v2, v3, v4, v5, v6⟩
  · rw [if_pos v1] at k0; exact absurd k0 (by decide)
  · rw [if_neg (by rw [v1]; decide), v3, ti_n (by omega)] at k0
    by_cases c : 0 ≤ y.toInt ∧ y.toInt < n
    · exact ⟨n, f, y.toInt.toNat, n1, f1, by omega, by rw [ti_eq, ti_n (by omega)]; omega, v1, v2, v3, v4, v5, (v6 _ (by omega)).1⟩
    · rw [if_neg c] at k0; exact absurd k0 (by decide)
/-- promise 40 -/
theorem o_held (H : Ok L xs h) (x y : Int32) {F : Int32 → xH → Prop} (hF : Nx L xs (p_M_held (12, 0) x y) F) : p_T_held (11, 0) x y h F := by
  obtain ⟨nr, nt, i⟩ := H
  have e0 : (0 : Int32).toInt = 0 := rfl
  unfold p_T_held
  refine w_isSatchel (fun c => ⟨fun z => absurd rfl z, fun _ => hF _ _ i.vs (fun G hG => ?_)⟩) (fun s hs e => ⟨fun _ => ⟨rfl, ?_⟩, fun z => absurd z (by decide)⟩)
  · unfold p_M_held
    exact w_mSatchel (fun _ => ⟨fun z => absurd rfl z, fun _ => hG h ⟨nr, nt, i⟩⟩) (fun w hw e => absurd e (c w hw))
  · subst e
    refine w_refusePlace i (SC.rf h) hs ?_
    by_cases k0 : lkP (hI h) s y = 0
    · rw [k0]
      obtain ⟨n, f, j, n1, f1, hj, rfl, v1, v2, v3, v4, v5, v6⟩ := lkP_0 i hs k0
      obtain ⟨r1, r2, r3, r4, r5⟩ := satR i hs
      refine ⟨fun _ => ?_, fun z => absurd rfl z⟩
      show _ ∧ _
      rw [show hp h 0 = h from rfl, r1, r2, cl_n (by omega), cl_n (by omega), r3, r4, r5, v6]
      refine ⟨rfl, in_n (by omega) (by omega), rfl, rfl, in_n (by omega) (by omega), hF _ _ i.vs (fun G hG => ?_)⟩
      unfold p_M_held
      refine w_mSatchel (fun c => absurd rfl (c s hs)) (fun _ _ _ => ⟨fun _ => ?_, fun z => absurd z (by decide)⟩)
      rw [mR58 i.m, mS58 i.m, mR60 i.m, mS60 i.m, cl_n (by omega), v1, v3]
      refine ⟨rfl, rfl, in_n (by omega) (by omega), fun _ => ⟨rfl, in_n (by omega) (by omega), w_in (fun c => ?_) (fun _ => ⟨fun z => absurd z (by decide), fun _ => ?_⟩)⟩, fun z => absurd z (by decide)⟩
      · rw [sub1 (by omega), e0, ti_n (by omega)] at c; omega
      · rw [mR61 i.m, mS61 i.m, ix10, cl_n (by omega)]
        exact ⟨rfl, in_n (by omega) (by omega), hG h ⟨nr, nt, i⟩⟩
    · refine ⟨fun z => absurd ((cd_0 (lkP_lt _ _ _)).mp z) k0, fun _ => fin_find i k0 (lkP_lt _ _ _) hF (fun G g => ?_)⟩
      have sM := SM.kc (fd_sm h (lkP (hI h) s y))
      have m := SM.m i sM
      unfold p_M_held
      refine w_mSatchel (fun c => absurd rfl (c s hs)) (fun _ _ _ => ⟨fun _ => ?_, fun z => absurd z (by decide)⟩)
      rw [mR58 m, mS58 m, mR60 m, mS60 m, cl_n (by omega), sM.i 92, sM.i 94]
      unfold lkP at g k0 ⊢
      refine ⟨rfl, rfl, in_n (by omega) (by omega), fun c => ⟨rfl, in_n (by omega) (by omega), ?_⟩, fun c => ?_⟩
      · rcases i.vx s hs with ⟨v1, v2⟩ | ⟨v1, n, f, n1, f1, v2, v3, -⟩
        · exact absurd v1 c
        · rw [if_neg c, v3, ti_n (by omega)] at g k0 ⊢
          refine w_in (fun c2 => ⟨fun _ => ?_, fun z => absurd rfl z⟩) (fun c2 => ?_) <;> rw [sub1 (by omega), e0] at c2
          · rw [if_neg (by omega)] at g ⊢; exact g
          · rw [if_pos (by omega)] at k0; exact absurd rfl k0
      · rw [if_pos c] at g ⊢; exact g
/-- the places of one satchel -/
def KT (s : Nat) : xN → Nat → Prop := fun n j => n = (23, s) ∨ (n = (7, s) ∧ (j = 1 ∨ j = 2)) ∨ (n = (92, 0) ∧ j = s) ∨ (n = (93, 0) ∧ j = s) ∨ (n = (94, 0) ∧ j = s) ∨ (n = (95, 0) ∧ 10 * s ≤ j ∧ j < 10 * s + 10)
theorem KT_kk {s : Nat} : ∀ n j, KT s n j → KK [7, 23, 92, 93, 94, 95] [] n j := by
  intro n j e
  rcases e with rfl | ⟨rfl, _⟩ | ⟨rfl, _⟩ | ⟨rfl, _⟩ | ⟨rfl, _⟩ | ⟨rfl, _⟩ <;> exact Or.inl (by simp)
theorem VX_o {I I' : xN → Nat → Int32} {s s' : Nat} (o : ∀ n j, ¬ KT s n j → I' n j = I n j) (hne : s' ≠ s)
    (e : (I (92, 0) s' = 0 ∧ I (7, s') 2 = -1) ∨ (I (92, 0) s' = 1 ∧ ∃ n f, n ≤ 10 ∧ f ≤ 5 ∧ I (7, s') 2 = nI n ∧ I (94, 0) s' = nI n ∧ I (7, s') 1 = nI f ∧ I (93, 0) s' = nI f ∧ ∀ k, k < 10 → I (23, s') k = I (95, 0) (10 * s' + k) ∧ (I (95, 0) (10 * s' + k) = -1 ∨ ∃ t, t < nt ∧ I (95, 0) (10 * s' + k) = nI t))) :
    (I' (92, 0) s' = 0 ∧ I' (7, s') 2 = -1) ∨ (I' (92, 0) s' = 1 ∧ ∃ n f, n ≤ 10 ∧ f ≤ 5 ∧ I' (7, s') 2 = nI n ∧ I' (94, 0) s' = nI n ∧ I' (7, s') 1 = nI f ∧ I' (93, 0) s' = nI f ∧ ∀ k, k < 10 → I' (23, s') k = I' (95, 0) (10 * s' + k) ∧ (I' (95, 0) (10 * s' + k) = -1 ∨ ∃ t, t < nt ∧ I' (95, 0) (10 * s' + k) = nI t)) := by
  rw [o (92, 0) s' (by simp [KT, hne]), o (93, 0) s' (by simp [KT, hne]), o (94, 0) s' (by simp [KT, hne]), o (7, s') 1 (by simp [KT, hne]), o (7, s') 2 (by simp [KT, hne])]
  rcases e with e | ⟨e, n, f, n1, f1, a1, a2, a3, a4, a5⟩
  · exact Or.inl e
  · refine Or.inr ⟨e, n, f, n1, f1, a1, a2, a3, a4, fun k hk => ?_⟩
    rw [o (23, s') k (by simp [KT, hne]), o (95, 0) (10 * s' + k) (by simp [KT]; omega)]
    exact a5 k hk
/-- promise 36 -/
theorem o_satchel (H : Ok L xs h) (x f n : Int32) {F : Int32 → xH → Prop} (hF : Nx L xs (p_M_satchel (12, 0) x f n) F) : p_T_satchel (11, 0) x f n h F := by
  obtain ⟨nr, nt, i⟩ := H
  have e0 : (0 : Int32).toInt = 0 := rfl
  have e5 : (5 : Int32).toInt = 5 := rfl
  have e10 : (10 : Int32).toInt = 10 := rfl
  unfold p_T_satchel
  refine w_isSatchel (fun c => ⟨fun z => absurd rfl z, fun _ => hF _ _ i.vs (fun G hG => ?_)⟩) (fun s hs e => ⟨fun _ => ?_, fun z => absurd z (by decide)⟩)
  · unfold p_M_satchel
    exact w_mSatchel (fun _ => ⟨fun z => absurd rfl z, fun _ => hG h ⟨nr, nt, i⟩⟩) (fun w hw e => absurd e (c w hw))
  · subst e
    have no : (¬ (0 ≤ f.toInt ∧ f.toInt ≤ 5)) → F (-3) h := fun c => hF _ _ i.vs (fun G hG => by
      unfold p_M_satchel
      exact w_mSatchel (fun c => absurd rfl (c s hs)) (fun _ _ _ => ⟨fun _ => w_in (fun _ => ⟨fun _ => hG h ⟨nr, nt, i⟩, fun z => absurd rfl z⟩) (fun c2 => absurd c2 c), fun z => absurd z (by decide)⟩))
    refine ⟨fun c => no (by rw [ti_lt, e0] at c; omega), fun c => ⟨fun c2 => no (by rw [ti_lt, e5] at c2; omega), fun c2 => ?_⟩⟩
    have hf : 0 ≤ f.toInt ∧ f.toInt ≤ 5 := by
      rw [ti_lt, e0] at c; rw [ti_lt, e5] at c2; omega
    refine ⟨fun c10 => ⟨fun c0 => ?_, fun c0 => ⟨rfl, w_found i.x (k := 5) (by omega) (fin_find (k := 5) i (by omega) (by omega) hF (fun G g => ?_))⟩⟩, fun c10 => hF _ _ i.vs (fun G hG => ?_)⟩
    · obtain ⟨z, hz, rfl⟩ : ∃ z, z ≤ 10 ∧ n = nI z := by
        rw [ti_le, e10] at c10
        rw [ti_le, e0] at c0
        exact ⟨n.toInt.toNat, by omega, by rw [ti_eq, ti_n (by omega)]; omega⟩
      obtain ⟨fn, hfn, rfl⟩ : ∃ z, z ≤ 5 ∧ f = nI z := ⟨f.toInt.toNat, by omega, by rw [ti_eq, ti_n (by omega)]; omega⟩
      obtain ⟨r1, r2, r3, r4, r5⟩ := satR i hs
      rw [r1, r2, cl_n (by omega), r3]
      unfold p_Sa_begin
      refine ⟨rfl, rfl, in_n (by omega) (by omega), rfl, rfl, fun h2 q2 h4 q4 => ?_⟩
      have s4 : Sm (KT s) h h4 := by rw [q4, q2]; exact ((Sm.rf _ h).si _ (by simp [KT])).si _ (by simp [KT])
      have sC4 : Sm KC h h4 := by rw [q4, q2]; exact ((Sm.rf _ h).si _ (by simp [KC])).si _ (by simp [KC])
      rw [s4.2.2, r4]
      refine w_fill (z := 10) rfl (by rw [s4.2.1, r5]) (by omega) (fun h6 s6 f6 => ?_)
      have sC : Sm KC h h6 := sC4.tr (s6.mono (fun n j e => by rw [e]; simp [KC]))
      have sT : Sm (KT s) h h6 := s4.tr (s6.mono (fun n j e => by rw [e]; simp [KT]))
      have w1 : hI h6 (7, s) 1 = nI fn := by rw [s6.1 _ _ (by simp), q4, q2]; simp [hI_sI]
      have w2 : hI h6 (7, s) 2 = nI z := by rw [s6.1 _ _ (by simp), q4, q2]; simp [hI_sI]
      refine hF _ _ (i.vs.fr sC (fun n j k => k.2.2)) (fun G hG => ?_)
      have m : ShM (hS h6) (hR h6) := SM.m i (SM.kc sC)
      unfold p_M_satchel
      refine w_mSatchel (fun c => absurd rfl (c s hs)) (fun _ _ _ => ⟨fun _ => w_in (fun c => absurd hf c) (fun _ => ⟨fun z => absurd z (by decide), fun _ => ⟨fun _ => ⟨fun _ => ?_, fun c => absurd c0 c⟩, fun c => absurd c10 c⟩⟩), fun z => absurd z (by decide)⟩)
      rw [mR58 m, mS58 m, cl_n (by omega)]
      refine ⟨rfl, rfl, in_n (by omega) (by omega), fun h12 q12 => ?_⟩
      have m12 : ShM (hS h12) (hR h12) := by rw [q12]; exact m
      rw [mR59 m12, mS59 m12]
      refine ⟨rfl, in_n (by omega) (by omega), fun h16 q16 => ?_⟩
      have m16 : ShM (hS h16) (hR h16) := by rw [q16]; exact m12
      rw [mR60 m16, mS60 m16]
      refine ⟨rfl, in_n (by omega) (by omega), fun h20 q20 => ⟨11, ?_⟩⟩
      have s20 : Sm (KT s) h h20 := by rw [q20, q16, q12]; exact ((sT.si _ (by simp [KT])).si _ (by simp [KT])).si _ (by simp [KT])
      have key : ∀ (m a : Nat) (h' : xH), a + m = 10 → Sm (fun n j => n = (95, 0) ∧ 10 * s ≤ j ∧ j < 10 * s + 10) h20 h' → (∀ k, k < a → hI h' (95, 0) (10 * s + k) = -1) → p_M_satchel_L62 (12, 0) (nI s) (nI z) (fun h30 => G (nI z) h30) G (m + 1) (nI a) h' := by
        intro m
        induction m with
        | zero =>
          intro a h' ha s5 f5
          unfold p_M_satchel_L62
          refine ⟨fun _ => ?_, fun c => absurd (show nI 10 ≤ nI a by rw [le_nn (by omega) (by omega)]; omega) c⟩
          have s6' : Sm (KT s) h h' := s20.tr (s5.mono (fun n j e => by simp [KT, e]))
          have y1 : hI h' (7, s) 1 = nI fn := by rw [s5.1 _ _ (by simp), q20, q16, q12]; simp only [hI_sI]; simp [w1]
          have y2 : hI h' (7, s) 2 = nI z := by rw [s5.1 _ _ (by simp), q20, q16, q12]; simp only [hI_sI]; simp [w2]
          have y92 : hI h' (92, 0) s = 1 := by rw [s5.1 _ _ (by simp), q20, q16, q12]; simp [hI_sI]
          have y93 : hI h' (93, 0) s = nI fn := by rw [s5.1 _ _ (by simp), q20, q16, q12]; simp [hI_sI]
          have y94 : hI h' (94, 0) s = nI z := by rw [s5.1 _ _ (by simp), q20, q16, q12]; simp [hI_sI]
          have y23 : ∀ k, k < 10 → hI h' (23, s) k = -1 := fun k hk => by rw [s5.1 _ _ (by simp), q20, q16, q12]; simp only [hI_sI]; simp [f6 k hk]
          refine hG h' ⟨nr, nt, i.updD [7, 23, 92, 93, 94, 95] [] (s6'.mono KT_kk) (vx := Or.inr fun s' hs' => ?_)⟩
          by_cases es : s' = s
          · subst es
            refine Or.inr ⟨y92, z, fn, hz, hfn, y2, y94, y1, y93, fun k hk => ?_⟩
            rw [y23 k hk, f5 k (by omega)]
            exact ⟨rfl, Or.inl rfl⟩
          · exact VX_o s6'.1 es (i.vx s' hs')
        | succ m ih =>
          intro a h' ha s5 f5
          unfold p_M_satchel_L62
          have m' : ShM (hS h') (hR h') := by rw [s5.2.1, s5.2.2, s20.2.1, s20.2.2]; exact i.m
          rw [mR61 m', mS61 m', ix10, cl_n (by omega)]
          refine ⟨fun c => ?_, fun _ => ⟨rfl, rfl, in_n (by omega) (by omega), fun h5 e5 v hv => ?_⟩⟩
          · have c' : nI 10 ≤ nI a := c
            rw [le_nn (by omega) (by omega)] at c'; omega
          · rw [hv, nI_1]
            refine ih (a + 1) h5 (by omega) (by rw [e5]; exact s5.si _ ⟨rfl, by omega, by omega⟩) (fun k hk => ?_)
            rw [e5, hI_sI]
            by_cases ek : k = a
            · simp [ek]
            · rw [if_neg (by simp [ek])]; exact f5 k (by omega)
      exact key 10 0 h20 (by omega) (Sm.rf _ h20) (fun k hk => by omega)
    · unfold p_M_satchel
      exact w_mSatchel (fun c => absurd rfl (c s hs)) (fun _ _ _ => ⟨fun _ => w_in (fun c => absurd hf c) (fun _ => ⟨fun z => absurd z (by decide), fun _ => ⟨fun _ => ⟨fun c => absurd c c0, fun _ => ⟨rfl, g⟩⟩, fun c => absurd c10 c⟩⟩), fun z => absurd z (by decide)⟩)
    · unfold p_M_satchel
      exact w_mSatchel (fun c => absurd rfl (c s hs)) (fun _ _ _ => ⟨fun _ => w_in (fun c => absurd hf c) (fun _ => ⟨fun z => absurd z (by decide), fun _ => ⟨fun c => absurd c c10, fun _ => hG h ⟨nr, nt, i⟩⟩⟩), fun z => absurd z (by decide)⟩)
end Satch
