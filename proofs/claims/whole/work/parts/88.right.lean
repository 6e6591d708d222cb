section Right
variable {qq : Prop} {L : Nat} {xs : Nat → Int32} {nr nt : Nat} {v h g : xH}
def rightL (cnt : Nat) (ps : Nat → Nat) : Prop := ∀ i, i < cnt → cn (fun j => decide (ps j < ps i)) cnt + 1 = ps i
def rightP (pos : Nat → Nat) (n : Nat) : Prop := ∀ x, 1 ≤ x → x ≤ n → 0 < pos x → cn (fun j => decide (0 < pos (j + 1)) && decide (pos (j + 1) < pos x)) n + 1 = pos x
theorem right_LP {pos : Nat → Nat} {n : Nat} : rightL (lsP pos n).length (fun i => pos ((lsP pos n).getD i 0)) ↔ rightP pos n := by
  unfold rightL rightP
  constructor
  · intro z x x1 x2 px
    obtain ⟨i, hi, e⟩ := List.getElem_of_mem ((lsP_mem pos n x).mpr ⟨x1, x2, px⟩)
    have : cn (fun j => decide (pos ((lsP pos n).getD j 0) < pos ((lsP pos n).getD i 0))) (lsP pos n).length + 1 = pos ((lsP pos n).getD i 0) := z i hi
    have e2 : (lsP pos n).getD i 0 = x := by rw [gd_lt hi]; exact e
    rw [e2] at this
    rw [← lsP_cn pos (fun y => decide (pos y < pos x)) n]
    exact this
  · intro z i hi
    have m := (lsP_mem pos n _).mp (show (lsP pos n).getD i 0 ∈ lsP pos n by rw [gd_lt hi]; exact List.getElem_mem hi)
    have := z _ m.1 m.2.1 m.2.2
    rw [← lsP_cn pos (fun y => decide (pos y < pos ((lsP pos n).getD i 0))) n] at this
    exact this
theorem m1n {a : Nat} (h1 : 1 ≤ a) : nI a - 1 = nI (a - 1) := nI_mn (b := 1) h1
theorem w_isRight {f cnt : Nat} {ru ps : Nat → Nat} (F : FiH h f cnt ru ps) (hp : ∀ i, i < cnt → 1 ≤ ps i) {Q : Int32 → xH → Prop} (no : ¬ rightL cnt ps → Q 0 h) (yes : rightL cnt ps → Q 1 h) : p_F_isRight (4, f) h Q := by
  obtain ⟨f1, f2, f3, f4, f5, f6, f7⟩ := F
  have inner : ∀ (i : Nat), i < cnt → ∀ {K : Int32 → xH → Prop}, K (nI (cn (fun j => decide (ps j < ps i)) cnt)) h → ∀ (m a : Nat), a + m = cnt → p_F_isRight_L14 (4, f) (nI i) K Q (m + 1) (nI (cn (fun j => decide (ps j < ps i)) a)) (nI a) h := by
    intro i hi K k m
    induction m with
    | zero =>
      intro a ha
      have : a = cnt := by omega
      subst this
      unfold p_F_isRight_L14
      rw [f1, le_nn (by omega) (by omega)]
      exact ⟨rfl, fun _ => k, fun z => absurd (by omega) z⟩
    | succ m ih =>
      intro a ha
      have ea := f7 a (by omega)
      have ei := f7 i hi
      have st : cn (fun j => decide (ps j < ps i)) (a + 1) = cn (fun j => decide (ps j < ps i)) a + (if decide (ps a < ps i) = true then 1 else 0) := by rw [cn]
      have ih' := ih (a + 1) (by omega)
      unfold p_F_isRight_L14
      rw [f1, le_nn (by omega) (by omega), f4, f6, cl_n (by omega), cl_n (by omega), ea.2.1, ei.2.1, le_nn (by omega) (by omega)]
      refine ⟨rfl, fun z => absurd z (by omega), fun _ => ⟨rfl, in_n (by omega) (by omega), in_n (by omega) (by omega), fun z w hw y hy => ?_, fun z w hw y hy => ?_⟩⟩
      · rw [st, if_neg (by simp; omega)] at ih'
        rw [hw, hy, nI_1, Int32.add_zero]; exact ih'
      · rw [st, if_pos (by simp; omega)] at ih'
        rw [hw, hy, nI_1, nI_1]; exact ih'
  have key : ∀ (m a : Nat), a + m = cnt → (∀ i, i < a → cn (fun j => decide (ps j < ps i)) cnt + 1 = ps i) → p_F_isRight_L2 (4, f) (fun h => Q 1 h) Q (m + 1) (nI a) h := by
    intro m
    induction m with
    | zero =>
      intro a ha r
      unfold p_F_isRight_L2
      rw [f1, le_nn (by omega) (by omega)]
      exact ⟨rfl, fun _ => yes (fun i hi => r i (by omega)), fun z => absurd (by omega) z⟩
    | succ m ih =>
      intro a ha r
      have ea := f7 a (by omega)
      have pa := hp a (by omega)
      have cl := cn_le (fun j => decide (ps j < ps a)) cnt
      unfold p_F_isRight_L2
      rw [f1, le_nn (by omega) (by omega)]
      refine ⟨rfl, fun z => absurd z (by omega), fun _ => ⟨cnt + 1, inner a (by omega) ?_ cnt 0 (by omega)⟩⟩
      show _ ∧ _
      rw [f4, f6, cl_n (by omega), ea.2.1, m1n pa, nI_inj (by omega) (by omega)]
      refine ⟨rfl, in_n (by omega) (by omega), fun z w hw => ?_, fun z => no (fun y => z (by have := y a (by omega); omega))⟩
      rw [hw, nI_1]
      exact ih (a + 1) (by omega) (fun i hi => if e : i = a then by rw [e]; omega else r i (by omega))
  exact ⟨cnt + 1, key cnt 0 (by omega) (fun i hi => by omega)⟩
theorem pos_n (i : InvQ qq L xs nr nt v) {r : Nat} (hr : r < nr) {k : Nat} (hk : k < 13) : hI v (39, 0) (13 * r + k) = nI (posM (hI v) r k) ∧ posM (hI v) r k ≤ 12 := by
  obtain ⟨a, b, c, x, d1, d2⟩ := (i.vr.1 r hr).2.2.2 k hk
  unfold posM
  rw [d2, cl_n (by omega)]
  exact ⟨rfl, d1⟩
theorem w_areRight (i : InvQ qq L xs nr nt v) (s : SM v g) {r n : Nat} (hr : r < nr) (en : hI v (36, 0) r = nI n) (hn : n ≤ 12) {Q : Int32 → xH → Prop} (no : ¬ (rightP (posM (hI v) r) n ∧ min 3 (rnOf v r) ≤ (lsP (posM (hI v) r) n).length) → Q 0 g) (yes : rightP (posM (hI v) r) n → min 3 (rnOf v r) ≤ (lsP (posM (hI v) r) n).length → Q 1 g) : p_M_areRight (12, 0) (nI r) g Q := by
  have hnr := i.vc.1
  have m' := SM.m i s
  have rr := rn_of i hr
  have ep : ∀ k, k < 13 → hI g (39, 0) (13 * r + k) = nI (posM (hI v) r k) ∧ posM (hI v) r k ≤ 12 := fun k hk => by rw [s.i 39]; exact pos_n i hr hk
  have e36 : hI g (36, 0) r = nI n := by rw [s.i 36]; exact en
  have e38 : (fun k => decide (hI g (38, 0) (13 * r + (k + 1)) = 0)) = (fun k => decide (hI v (38, 0) (13 * r + (k + 1)) = 0)) := funext (fun k => by rw [s.i 38])
  have ern : cn (fun k => decide (hI v (38, 0) (13 * r + (k + 1)) = 0)) n = rnOf v r := by unfold rnOf; rw [en, cl_n (by omega)]
  generalize posM (hI v) r = pos at *
  have z0 : ∀ k, k < 13 → (nI (pos k) ≤ (0 : Int32) ↔ pos k = 0) := fun k hk => (le_nn (b := 0) (by have := (ep k hk).2; omega) (by omega)).trans (by omega)
  have inner : ∀ (x : Nat) (l2 l3 : Int32), x < 13 → ∀ {K : Int32 → xH → Prop}, K (nI (cn (fun j => decide (0 < pos (j + 1)) && decide (pos (j + 1) < pos x)) n)) g → ∀ (m a : Nat), a + m = n → p_M_areRight_L33 (12, 0) (nI r) l2 l3 (nI (pos x)) K Q (m + 1) (nI (cn (fun j => decide (0 < pos (j + 1)) && decide (pos (j + 1) < pos x)) a)) (nI (a + 1)) g := by
    intro x l2 l3 hx K k m
    induction m with
    | zero =>
      intro a ha
      have : a = n := by omega
      subst this
      unfold p_M_areRight_L33
      rw [mR2 m', mS2 m', cl_n (by omega), e36, ltn (by omega) (by omega)]
      exact ⟨rfl, rfl, in_n (by omega) (by omega), fun _ => k, fun z => absurd (by omega) z⟩
    | succ m ih =>
      intro a ha
      have ea := ep (a + 1) (by omega)
      have ex := ep x hx
      have st : cn (fun j => decide (0 < pos (j + 1)) && decide (pos (j + 1) < pos x)) (a + 1) = cn (fun j => decide (0 < pos (j + 1)) && decide (pos (j + 1) < pos x)) a + (if (decide (0 < pos (a + 1)) && decide (pos (a + 1) < pos x)) = true then 1 else 0) := by rw [cn]
      have ih' := ih (a + 1) (by omega)
      unfold p_M_areRight_L33
      rw [mR2 m', mS2 m', cl_n (by omega), e36, ltn (by omega) (by omega), mR5 m', mS5 m', ix13, cl_n (by omega), ea.1]
      refine ⟨rfl, rfl, in_n (by omega) (by omega), fun z => absurd z (by omega), fun _ => ⟨rfl, in_n (by omega) (by omega), fun v15 hv15 => ?_⟩⟩
      subst hv15
      rw [z0 _ (by omega), le_nn (by omega) (by omega)]
      refine ⟨fun z w hw y hy => ?_, fun z => ⟨fun z2 w hw y hy => ?_, fun z2 w hw y hy => ?_⟩⟩
      · rw [st, if_neg (by simp; omega)] at ih'
        rw [hw, hy, nI_1, Int32.add_zero]; exact ih'
      · rw [st, if_neg (by simp; omega)] at ih'
        rw [hw, hy, nI_1, Int32.add_zero]; exact ih'
      · rw [st, if_pos (by simp; omega)] at ih'
        rw [hw, hy, nI_1, nI_1]; exact ih'
  have key : ∀ (m a : Nat), a + m = n → (∀ x, 1 ≤ x → x ≤ a → 0 < pos x → cn (fun j => decide (0 < pos (j + 1)) && decide (pos (j + 1) < pos x)) n + 1 = pos x) → p_M_areRight_L4 (12, 0) (nI r) (fun (x45 : Int32) (h46 : xH) => (kd ((12, 0) : xN).1 = (1, 10)) ∧ p_M_running (12, 0) (nI r) h46 (fun (v49 : Int32) (h48 : xH) => (((3 : Int32) ≤ v49 → p_M_areRight_j138 (3 : Int32) x45 h48 Q) ∧ (¬ (3 : Int32) ≤ v49 → p_M_areRight_j138 v49 x45 h48 Q)))) Q (m + 1) (nI (cn (fun j => decide (0 < pos (j + 1))) a)) (nI (a + 1)) g := by
    intro m
    induction m with
    | zero =>
      intro a ha rt
      have : a = n := by omega
      subst this
      have cl := cn_le (fun j => decide (0 < pos (j + 1))) a
      have l3 : (3 : Int32) ≤ nI (rnOf v r) ↔ 3 ≤ rnOf v r := le_nn (a := 3) (by omega) (by omega)
      have lc : nI (cn (fun j => decide (0 < pos (j + 1))) a) < (3 : Int32) ↔ cn (fun j => decide (0 < pos (j + 1))) a < 3 := ltn (b := 3) (by omega) (by omega)
      rw [lsP_len] at no yes
      unfold p_M_areRight_L4
      rw [mR2 m', mS2 m', cl_n (by omega), e36, ltn (by omega) (by omega)]
      refine ⟨rfl, rfl, in_n (by omega) (by omega), fun _ => ⟨rfl, w_running m' (by omega) e36 hn ?_⟩, fun z => absurd (by omega) z⟩
      rw [e38, ern]
      show _ ∧ _
      unfold p_M_areRight_j138
      rw [l3, lc, ltn (by omega) (by omega)]
      exact ⟨fun z => ⟨fun y => no (fun w => by have := w.2; omega), fun y => yes rt (by omega)⟩, fun z => ⟨fun y => no (fun w => by have := w.2; omega), fun y => yes rt (by omega)⟩⟩
    | succ m ih =>
      intro a ha rt
      have ea := ep (a + 1) (by omega)
      have cl := cn_le (fun j => decide (0 < pos (j + 1)) && decide (pos (j + 1) < pos (a + 1))) n
      have st : cn (fun j => decide (0 < pos (j + 1))) (a + 1) = cn (fun j => decide (0 < pos (j + 1))) a + (if decide (0 < pos (a + 1)) = true then 1 else 0) := by rw [cn]
      have j102 : (0 < pos (a + 1) → cn (fun j => decide (0 < pos (j + 1)) && decide (pos (j + 1) < pos (a + 1))) n + 1 = pos (a + 1)) → p_M_areRight_j102 (12, 0) (nI r) (nI (cn (fun j => decide (0 < pos (j + 1))) a)) (nI (a + 1)) (nI (pos (a + 1))) (p_M_areRight_L4 (12, 0) (nI r) (fun (x45 : Int32) (h46 : xH) => (kd ((12, 0) : xN).1 = (1, 10)) ∧ p_M_running (12, 0) (nI r) h46 (fun (v49 : Int32) (h48 : xH) => (((3 : Int32) ≤ v49 → p_M_areRight_j138 (3 : Int32) x45 h48 Q) ∧ (¬ (3 : Int32) ≤ v49 → p_M_areRight_j138 v49 x45 h48 Q)))) Q (m + 1)) g Q := fun ok => by
        have ih' := ih (a + 1) (by omega) (fun x x1 x2 px => if e : x = a + 1 then by rw [e] at px ⊢; exact ok px else rt x x1 (by omega) px)
        unfold p_M_areRight_j102
        rw [z0 _ (by omega)]
        refine ⟨fun z w hw y hy => ?_, fun z w hw y hy => ?_⟩
        · rw [st, if_neg (by simp; omega)] at ih'
          rw [hw, hy, nI_1, Int32.add_zero]; exact ih'
        · rw [st, if_pos (by simp; omega)] at ih'
          rw [hw, hy, nI_1, nI_1]; exact ih'
      unfold p_M_areRight_L4
      rw [mR2 m', mS2 m', cl_n (by omega), e36, ltn (by omega) (by omega), mR5 m', mS5 m', ix13, cl_n (by omega), ea.1]
      refine ⟨rfl, rfl, in_n (by omega) (by omega), fun z => absurd z (by omega), fun _ => ⟨rfl, in_n (by omega) (by omega), fun v7 hv7 => ⟨n + 1, ?_⟩⟩⟩
      subst hv7
      refine inner (a + 1) _ _ (by omega) ?_ n 0 (by omega)
      show _ ∧ _
      rw [z0 _ (by omega)]
      refine ⟨fun z => j102 (fun y => by omega), fun z => ?_⟩
      rw [m1n (by omega), nI_inj (by omega) (by omega)]
      exact ⟨fun y => j102 (fun _ => by omega), fun y => no (fun w => y (by have := w.1 (a + 1) (by omega) (by omega) (by omega); omega))⟩
  exact ⟨n + 1, key n 0 (by omega) (fun x x1 x2 => by omega)⟩
/-- the model takes the positions of a race -/
theorem w_takeP (i : InvQ qq L xs nr nt v) {r n : Nat} (hr : r < nr) (en : hI v (36, 0) r = nI n) (hn : n ≤ 12) {k : Nat} (hk : k = 67 ∨ k = 68) (s : ∀ g', Sm (fun m _ => m = (k, 0)) g g' → (∀ j, hI g' (39, 0) j = hI v (39, 0) j) ∧ hI g' (36, 0) r = nI n ∧ ShM (hS g') (hR g')) {Q : xH → Prop} (q : ∀ g', Sm (fun m _ => m = (k, 0)) g g' → AtH g' (k, 0) (atP (posM (hI v) r) n) → Q g') : p_M_takePositions (12, 0) (nI r) (k, 0) g Q := by
  have hnr := i.vc.1
  have kd2 : kd ((k, 0) : xN).1 = (2, 0) := by rcases hk with rfl | rfl <;> rfl
  have Sk : ∀ g', Sm (fun m _ => m = (k, 0)) g g' → hS g' (k, 0) = 14 := fun g' s' => by
    have := (s g' s').2.2
    rcases hk with rfl | rfl
    · exact mS33 this
    · exact mS34 this
  have key : ∀ (m a : Nat) (g' : xH), a + m = 13 → Sm (fun m _ => m = (k, 0)) g g' → (∀ x, x < a → hI g' (k, 0) x = nI (atP (posM (hI v) r) n x)) → p_M_takePositions_L2 (12, 0) (nI r) (k, 0) (fun h => Q h) Q (m + 1) (nI a) g' := by
    intro m
    induction m with
    | zero =>
      intro a g' ha S f
      unfold p_M_takePositions_L2
      rw [show (13 : Int32) = nI 13 from rfl, le_nn (by omega) (by omega)]
      refine ⟨fun _ => q g' S ⟨kd2, Sk g' S, fun x hx => ⟨f x (by omega), ?_⟩⟩, fun z => absurd (by omega) z⟩
      unfold atP
      split
      · exact (pos_n i hr hx).2
      · omega
    | succ m ih =>
      intro a g' ha S f
      obtain ⟨t1, t2, t3⟩ := s g' S
      have go : ∀ y : Nat, atP (posM (hI v) r) n a = y → ∀ h5, h5 = sI g' (k, 0) a (nI y) → ∀ w : Int32, w = nI a + 1 → p_M_takePositions_L2 (12, 0) (nI r) (k, 0) (fun h => Q h) Q (m + 1) w h5 := fun y hy h5 q5 w hw => by
        rw [hw, nI_1]
        refine ih (a + 1) h5 (by omega) (by rw [q5]; exact S.si _ rfl) (fun x hx => ?_)
        rw [q5, hI_sI]
        by_cases e : x = a
        · rw [if_pos ⟨rfl, e⟩, e, hy]
        · rw [if_neg (fun z => e z.2)]; exact f x (by omega)
      have z0 : nI a ≤ (0 : Int32) ↔ a = 0 := (le_nn (b := 0) (by omega) (by omega)).trans (by omega)
      have ep := pos_n i hr (k := a) (by omega)
      unfold p_M_takePositions_L2
      rw [show (13 : Int32) = nI 13 from rfl, le_nn (by omega) (by omega), z0, Sk g' S, mR2 t3, mS2 t3, show nI 13 * nI r + nI a = nI (13 * r + a) by rw [nI_x, nI_add], mR5 t3, mS5 t3, cl_n (by omega), cl_n (by omega), cl_n (by omega), t2, ltn (by omega) (by omega), t1, ep.1]
      refine ⟨fun z => absurd z (by omega), fun _ => ⟨fun z => ⟨kd2, in_n (by omega) (by omega), go 0 ?_⟩, fun z => ⟨rfl, rfl, in_n (by omega) (by omega), fun y => ⟨kd2, in_n (by omega) (by omega), go 0 ?_⟩, fun y => ⟨rfl, in_n (by omega) (by omega), kd2, in_n (by omega) (by omega), go _ ?_⟩⟩⟩⟩
      · unfold atP; rw [if_neg (by omega)]
      · unfold atP; rw [if_neg (by omega)]
      · unfold atP; rw [if_pos (by omega)]
  exact ⟨14, key 13 0 g (by omega) (Sm.rf _ g) (fun x hx => by omega)⟩
end Right
