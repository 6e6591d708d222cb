section Sell
variable {L : Nat} {xs : Nat → Int32} {nr nt : Nat} {v h g : xH}
/-- the same model, whatever else was made -/
def SM2 (v g : xH) : Prop := (∀ n j, 34 ≤ n.1 ∨ n.1 = 12 → hI g n j = hI v n j) ∧ ShM (hS g) (hR g)
theorem SM2.i (s : SM2 v g) (k j : Nat) (hk : 34 ≤ k ∨ k = 12 := by decide) : hI g (k, 0) j = hI v (k, 0) j := s.1 _ _ hk
theorem SM.to2 (i : Inv L xs nr nt v) (s : SM v g) : SM2 v g := ⟨s.1, SM.m i s⟩
theorem w_raceOf2 (i : Inv L xs nr nt v) (s : SM2 v g) {p : Nat} (hp : p < 49) (c : hI v (40, 0) p = 1) {Q : Int32 → xH → Prop} (q : Q (nI (frp (hI v) p)) g) : p_M_raceOf (12, 0) (nI p) g Q := by
  unfold p_M_raceOf
  refine ⟨fun c2 => ?_, fun c2 => ⟨rfl, ?_⟩⟩
  · have hne : p ≠ 48 := fun e => c2 (by rw [e]; rfl)
    have e1 : nI p / (4 : Int32) = nI (p / 4) := pk_div (a := p) (d := 4) (by omega) (by omega) (by omega)
    rw [e1]
    rw [show frp (hI v) p = p / 4 by unfold frp; rw [if_neg hne]] at q
    exact q
  · have he : p = 48 := (nI_inj (a := p) (b := 48) (by omega) (by omega)).mp c2
    rw [s.i 12, ((((i.vp p hp).1 c).2.2.1) he).2.1]; exact q
theorem w_isThere2 (i : Inv L xs nr nt v) (s : SM2 v g) {r : Int32} {Q : Int32 → xH → Prop} (no : (∀ p, p < 49 → hI v (40, 0) p = 1 → r ≠ nI p) → Q 0 g) (yes : ∀ p, p < 49 → hI v (40, 0) p = 1 → r = nI p → Q 1 g) : p_M_isThere (12, 0) r g Q := by
  have e0 : (0 : Int32).toInt = 0 := rfl
  have e48 : (48 : Int32).toInt = 48 := rfl
  have m := s.2
  unfold p_M_isThere
  refine w_in (fun c => ⟨fun _ => no (fun p hp _ e => ?_), fun z => absurd rfl z⟩) (fun c => ⟨fun z => absurd z (by decide), fun _ => ?_⟩)
  · rw [e, ti_n (by omega), e0, e48] at c; omega
  · obtain ⟨p, hp, rfl⟩ : ∃ p, p < 49 ∧ r = nI p := by
      rw [e0, e48] at c
      exact ⟨r.toInt.toNat, by omega, by rw [ti_eq, ti_n (by omega)]; omega⟩
    rw [mR6 m, mS6 m, cl_n (by omega), s.i 40]
    refine ⟨rfl, rfl, in_n (by omega) (by omega), fun z => no (fun p' hp' z' e => ?_), fun z => yes p hp ((p40 i hp).resolve_left z) rfl⟩
    rw [nI_inj (by omega) (by omega)] at e
    rw [← e, z] at z'
    exact absurd z' (by decide)
theorem w_isR2 (i : Inv L xs nr nt v) (s : SM2 v g) {j : Nat} (hj : j < nr) {x : Int32} {Q : Int32 → xH → Prop} (no : ¬ isRn (hI v) j x → Q 0 g) (yes : isRn (hI v) j x → Q 1 g) : p_M_isRunner (12, 0) (nI j) x g Q := by
  have hn' := i.vc.1
  obtain ⟨n, u, a1, a2, a3, a4, a5, -⟩ := VR_run i.vr hj
  have e : (hI v (36, 0) j).toNatClampNeg = n := by rw [a5, cl_n (by omega)]
  have m := s.2
  have e1 : (1 : Int32).toInt = 1 := rfl
  unfold isRn at no yes
  rw [e] at no yes
  unfold p_M_isRunner
  rw [mR2 m, mS2 m, cl_n (by omega), s.i 36, a5]
  refine ⟨rfl, rfl, in_n (by omega) (by omega), w_in (fun c => ⟨Or.inl rfl, no (fun ⟨k, k1, k2, k3⟩ => ?_)⟩) (fun c => ⟨Or.inr rfl, ?_⟩)⟩
  · rw [k3, ti_n (by omega), ti_n (by omega), e1] at c; omega
  · rw [ti_n (by omega), e1] at c
    exact yes ⟨x.toInt.toNat, by omega, by omega, by rw [ti_eq, ti_n (by omega)]; omega⟩
theorem w_barsRow2 (i : Inv L xs nr nt v) (s : SM2 v g) {p : Nat} (hp : p < 49) (there : hI v (40, 0) p = 1) {a b c : Int32} {Q : Int32 → xH → Prop} (no : ¬ lgood (hI v) p a b c → Q (-3) g) (same : lgood (hI v) p a b c → ltwice p a b c → Q (-4) g) (ok : lgood (hI v) p a b c → ¬ ltwice p a b c → Q 0 g) : p_M_barsRow (12, 0) (nI p) a b c g Q := by
  have rc := prc i hp there
  have hk := kf_le (p := p)
  obtain ⟨n0, n1, n2, n3, n4⟩ := nk hk
  have j165 : ∀ w : Int32, (w = 0 → Q 0 g) → (¬ w = 0 → Q (-4) g) → p_M_barsRow_j165 w g Q := fun w q0 q1 => ⟨q0, q1⟩
  have j142 : lgood (hI v) p a b c → (¬ ((kf p = 2 ∨ kf p = 3) ∧ a = b)) → p_M_barsRow_j142 a b c (nI (kf p)) g Q := fun G nab => by
    unfold p_M_barsRow_j142
    rw [n3]
    refine ⟨fun k3 => j165 0 (fun _ => ok G (fun t => ?_)) (fun y => absurd rfl y), fun k3 => ⟨fun ac => j165 1 (fun y => absurd y (by decide)) (fun _ => same G (Or.inr ⟨k3, Or.inl ac⟩)), fun ac => ⟨fun bc => j165 0 (fun _ => ok G (fun t => ?_)) (fun y => absurd rfl y), fun bc => j165 1 (fun y => absurd y (by decide)) (fun _ => same G (Or.inr ⟨k3, Or.inr bc⟩))⟩⟩⟩
    · rcases t with t | t
      · exact nab t
      · exact k3 t.1
    · rcases t with t | t
      · exact nab t
      · exact t.2.elim ac bc
  have j137 : lgood (hI v) p a b c → (kf p = 2 ∨ kf p = 3) → p_M_barsRow_j137 a b c (nI (kf p)) g Q := fun G k23 => by
    unfold p_M_barsRow_j137
    exact ⟨fun ab => j165 1 (fun y => absurd y (by decide)) (fun _ => same G (Or.inl ⟨k23, ab⟩)), fun ab => j142 G (fun t => ab t.2)⟩
  have j117 : ∀ w : Int32, (w = 0 ↔ ¬ lgood (hI v) p a b c) → p_M_barsRow_j117 a b c (nI (kf p)) w g Q := fun w hw => by
    unfold p_M_barsRow_j117
    rw [n2, n3]
    refine ⟨fun z => ?_, fun z => no (hw.mp z)⟩
    have G : lgood (hI v) p a b c := Classical.not_not.mp (fun y => z (hw.mpr y))
    exact ⟨fun k2 => j137 G (Or.inl k2), fun k2 => ⟨fun k3 => j142 G (fun t => by omega), fun k3 => j137 G (Or.inr k3)⟩⟩
  have i0 : ¬ lgood (hI v) p a b c → p_M_barsRow_j117 a b c (nI (kf p)) 0 g Q := fun z => j117 0 ⟨fun _ => z, fun _ => rfl⟩
  have i1 : lgood (hI v) p a b c → p_M_barsRow_j117 a b c (nI (kf p)) 1 g Q := fun z => j117 1 ⟨fun y => absurd y (by decide), fun y => absurd z y⟩
  have j33 : kf p < 2 → ∀ w : Int32, (w = 0 ↔ ¬ isRn (hI v) (frp (hI v) p) a) → p_M_barsRow_j33 a b c (nI (kf p)) w g Q := fun k2 w hw => by
    unfold p_M_barsRow_j33
    have eB : lB (hI v) p b ↔ b = 0 := by unfold lB; rw [if_pos k2]
    have eC : lC (hI v) p c ↔ c = 0 := by unfold lC; rw [if_neg (by omega)]
    refine ⟨fun z => i0 (fun y => (hw.mp z) y.1), fun z => ⟨fun zb => i0 (fun y => zb (eB.mp y.2.1)), fun zb => ⟨fun zc => i0 (fun y => zc (eC.mp y.2.2)), fun zc => i1 ⟨Classical.not_not.mp (fun y => z (hw.mpr y)), eB.mpr zb, eC.mpr zc⟩⟩⟩⟩
  have j78 : ¬ kf p < 2 → isRn (hI v) (frp (hI v) p) a → p_M_barsRow_j78 (nI (scp (hI v) p)) (12, 0) (12, 0) a b c (nI (kf p)) (nI (frp (hI v) p)) g Q := fun k2 za => by
    unfold p_M_barsRow_j78
    have eB : lB (hI v) p b ↔ isRn (hI v) (scp (hI v) p) b := by unfold lB; rw [if_neg k2]
    refine ⟨rfl, w_isR2 i s rc.2.1 (fun zb => ⟨fun _ => i0 (fun y => zb (eB.mp y.2.1)), fun z => absurd rfl z⟩) (fun zb => ⟨fun z => absurd z (by decide), fun _ => ?_⟩)⟩
    rw [n3]
    refine ⟨fun k3 => ?_, fun k3 => ⟨rfl, ?_⟩⟩
    · have eC : lC (hI v) p c ↔ c = 0 := by unfold lC; rw [if_neg k3]
      exact ⟨fun zc => i0 (fun y => zc (eC.mp y.2.2)), fun zc => i1 ⟨za, eB.mpr zb, eC.mpr zc⟩⟩
    · have eC : lC (hI v) p c ↔ isRn (hI v) (frp (hI v) p) c := by unfold lC; rw [if_pos k3]
      exact w_isR2 i s rc.1 (fun zc => ⟨fun _ => i0 (fun y => zc (eC.mp y.2.2)), fun z => absurd rfl z⟩) (fun zc => ⟨fun z => absurd z (by decide), fun _ => i1 ⟨za, eB.mpr zb, eC.mpr zc⟩⟩)
  unfold p_M_barsRow
  refine w_mKindOf hp ⟨rfl, w_raceOf2 i s hp there ?_⟩
  rw [n0, n1, n4]
  refine w_isR2 i s rc.1 (fun za => ⟨fun k0 => j33 (by omega) 0 ⟨fun _ => za, fun _ => rfl⟩, fun k0 => ⟨fun k1 => ⟨fun _ => i0 (fun y => za y.1), fun z => absurd rfl z⟩, fun k1 => j33 (by omega) 0 ⟨fun _ => za, fun _ => rfl⟩⟩⟩) (fun za => ⟨fun k0 => j33 (by omega) 1 ⟨fun y => absurd y (by decide), fun y => absurd za y⟩, fun k0 => ⟨fun k1 => ⟨fun z => absurd z (by decide), fun _ => ⟨fun k4 => ?_, fun k4 => ?_⟩⟩, fun k1 => j33 (by omega) 1 ⟨fun y => absurd y (by decide), fun y => absurd za y⟩⟩⟩)
  · have q := j78 (by omega) za
    rw [rc.2.2.1 (fun e => k4 (rc.2.2.2.mp e))] at q
    exact q
  · have q := j78 (by omega) za
    rw [s.i 12, ((((i.vp p hp).1 there).2.2.1) (rc.2.2.2.mpr k4)).2.2]
    exact q
def gnn (I : xN → Nat → Int32) (j k : Nat) : Prop := k ≠ 0 ∧ ¬ I (38, 0) (13 * j + k) = 0
theorem w_isOutN (i : Inv L xs nr nt h) {j k : Nat} (hj : j < nr) (hk : k ≤ (hI h (36, 0) j).toNatClampNeg) {Q : Int32 → xH → Prop} (no : ¬ gnn (hI h) j k → Q 0 h) (yes : gnn (hI h) j k → Q 1 h) : p_R_isOut (6, j) (nI k) h Q := by
  obtain ⟨n, u, a1, a2, a3, a4, a5, -⟩ := VR_run i.vr hj
  rw [a5, cl_n (by omega)] at hk
  refine w_isOut i hj a4 a2 (fun z => no (fun y => ?_)) (fun k' h1 h2 e z => no (fun y => ?_)) (fun k' h1 h2 e z => yes ?_)
  · have := y.1; exact z k (by omega) hk rfl
  · rw [nI_inj (by omega) (by omega)] at e
    rw [← e] at z; exact y.2 z
  · rw [nI_inj (by omega) (by omega)] at e
    rw [← e] at z h1
    exact ⟨by omega, by rw [z]; decide⟩
theorem w_isGoneN (s : SM2 v g) {j k : Nat} (hj : j < 12) (hk : k ≤ 12) {Q : Int32 → xH → Prop} (no : ¬ gnn (hI v) j k → Q 0 g) (yes : gnn (hI v) j k → Q 1 g) : p_M_isGone (12, 0) (nI j) (nI k) g Q := by
  unfold p_M_isGone
  have e0 : nI k ≤ (0 : Int32) ↔ k = 0 := (le_nn (b := 0) (by omega) (by omega)).trans (by omega)
  rw [e0, mR4 s.2, mS4 s.2, ix13, cl_n (by omega), s.i 38]
  exact ⟨fun z => no (fun y => y.1 z), fun z => ⟨rfl, rfl, in_n (by omega) (by omega), fun y => no (fun x => x.2 y), fun y => yes ⟨z, y⟩⟩⟩
theorem lgood_m (i : Inv L xs nr nt v) {p : Nat} {a b c : Int32} (G : lgood (hI v) p a b c) : ∃ a' b' c', a = nI a' ∧ b = nI b' ∧ c = nI c' ∧ a' ≤ (hI v (36, 0) (frp (hI v) p)).toNatClampNeg ∧ b' ≤ (hI v (36, 0) (scp (hI v) p)).toNatClampNeg ∧ c' ≤ (hI v (36, 0) (frp (hI v) p)).toNatClampNeg := by
  obtain ⟨⟨a', a1, a2, a3⟩, B, C⟩ := G
  obtain ⟨b', b1, b2⟩ : ∃ b', b = nI b' ∧ b' ≤ (hI v (36, 0) (scp (hI v) p)).toNatClampNeg := by
    unfold lB at B
    by_cases k : kf p < 2
    · rw [if_pos k] at B; exact ⟨0, B, by omega⟩
    · rw [if_neg k] at B
      obtain ⟨b', b1, b2, b3⟩ := B
      exact ⟨b', b3, b2⟩
  obtain ⟨c', c1, c2⟩ : ∃ c', c = nI c' ∧ c' ≤ (hI v (36, 0) (frp (hI v) p)).toNatClampNeg := by
    unfold lC at C
    by_cases k : kf p = 3
    · rw [if_pos k] at C
      obtain ⟨b', b1, b2, b3⟩ := C
      exact ⟨b', b3, b2⟩
    · rw [if_neg k] at C; exact ⟨0, C, by omega⟩
  exact ⟨a', b', c', a3, b1, c1, a2, b2, c2⟩
def bgn (h : xH) (t p l : Nat) (a b c u stk : Int32) : xH := sI (sI (sI (sI (sI (sI h (10, t) 3 a) (10, t) 4 b) (10, t) 5 c) (17, p) l (hI h (17, p) l + u)) (5, p) 9 (hI h (5, p) 9 + u)) (19, p) 0 (hI h (19, p) 0 + stk)
theorem w_begin {t p a b c u d : Nat} (ha : a ≤ 12) (hb : b ≤ 12) (hc : c ≤ 12) (r0 : hR h (10, t) 0 = (5, p)) (r6 : hR h (5, p) 6 = (17, p)) (r8 : hR h (5, p) 8 = (19, p)) (s17 : hS h (17, p) = lls p + 1) (s19 : hS h (19, p) = 12) (e1 : hI h (5, p) 1 = nI (kf p)) (e2 : hI h (10, t) 2 = nI u) (e5 : hI h (5, p) 5 = nI d) {Q : xH → Prop}
    (q : ∀ a1 b1, (a1 = (if kf p = 2 ∧ ¬ a ≤ b then b else a)) → (b1 = (if kf p = 2 ∧ ¬ a ≤ b then a else b)) → Q (bgn h t p (lin2 (kf p) a1 b1 c) (nI a1) (nI b1) (nI c) (nI u) (nI u * nI d))) : p_Ti_begin (10, t) (nI a) (nI b) (nI c) h Q := by
  have hk := kf_le (p := p)
  have n2 : nI (kf p) = (2 : Int32) ↔ kf p = 2 := nI_inj (b := 2) (by omega) (by omega)
  have j48 : ∀ a1 b1, (a1 = (if kf p = 2 ∧ ¬ a ≤ b then b else a)) → (b1 = (if kf p = 2 ∧ ¬ a ≤ b then a else b)) → p_Ti_begin_j48 (nI b1) (10, t) (10, t) (nI c) (sI h (10, t) 3 (nI a1)) Q := fun a1 b1 ea eb => by
    have ha1 : a1 ≤ 12 := by rw [ea]; split <;> assumption
    have hb1 : b1 ≤ 12 := by rw [eb]; split <;> assumption
    unfold p_Ti_begin_j48
    refine ⟨rfl, fun h10 q10 => ⟨rfl, fun h13 q13 => ?_⟩⟩
    have R13 : hR h13 = hR h := by rw [q13, q10]; rfl
    have S13 : hS h13 = hS h := by rw [q13, q10]; rfl
    have o13 : ∀ n j, n ≠ (10, t) → hI h13 n j = hI h n j := fun n j hn => by rw [q13, q10, hI_sI, if_neg (fun z => hn z.1), hI_sI, if_neg (fun z => hn z.1), hI_sI, if_neg (fun z => hn z.1)]
    have v3 : hI h13 (10, t) 3 = nI a1 := by rw [q13, q10]; simp [hI_sI]
    have v4 : hI h13 (10, t) 4 = nI b1 := by rw [q13, q10]; simp [hI_sI]
    have v5 : hI h13 (10, t) 5 = nI c := by rw [q13, q10]; simp [hI_sI]
    have v2 : hI h13 (10, t) 2 = nI u := by rw [q13, q10]; simp [hI_sI, e2]
    unfold p_Ti_line
    rw [R13, r0, v3, v4, v5]
    refine ⟨rfl, rfl, w_lineOf (k := kf p) rfl kf_le (by rw [o13 _ _ (by simp)]; exact e1) ha1 hb1 ⟨rfl, ?_⟩⟩
    have l1 := lin2_lt (p := p) ha1 hb1 hc
    have l2 := lls_le (p := p)
    unfold p_Po_addLive
    rw [R13, S13, r6, s17, cl_n (by omega), v2]
    refine ⟨rfl, rfl, in_n (by omega) (by omega), in_n (by omega) (by omega), fun h5 q5 h7 q7 => ?_⟩
    have R7 : hR h7 = hR h := by rw [q7, q5]; exact R13
    have S7 : hS h7 = hS h := by rw [q7, q5]; exact S13
    have o7 : ∀ n j, n ≠ (17, p) → ¬ (n = (5, p) ∧ j = 9) → hI h7 n j = hI h13 n j := fun n j h1 h2 => by rw [q7, hI_sI, if_neg h2, q5, hI_sI, if_neg (fun z => h1 z.1)]
    show _ ∧ _
    unfold p_Ti_stake
    rw [R7, S7, r0, r8, s19]
    refine ⟨rfl, rfl, in_n (j := 0) (by omega) (by omega), rfl, rfl, ?_⟩
    show _ ∧ _
    rw [S7, s19, o7 (10, t) 2 (by simp) (by simp), o7 (5, p) 5 (by simp) (by simp), o7 (19, p) _ (by simp) (by simp), v2, o13 (5, p) 5 (by simp), e5, o13 (19, p) _ (by simp)]
    refine ⟨in_n (j := 0) (by omega) (by omega), fun h25 q25 => ?_⟩
    have q' := q a1 b1 ea eb
    have e25 : h25 = bgn h t p (lin2 (kf p) a1 b1 c) (nI a1) (nI b1) (nI c) (nI u) (nI u * nI d) := by
      rw [q25, q7, q5, hI_sI, if_neg (by simp), o13 _ _ (by simp), o13 _ _ (by simp), q13, q10]; rfl
    rw [e25]; exact q'
  have no2 : ¬ (kf p = 2 ∧ ¬ a ≤ b) → p_Ti_begin_j21 0 (10, t) (nI a) (nI b) (nI c) h Q := fun z => by
    unfold p_Ti_begin_j21 p_Ti_begin_j34
    refine ⟨fun _ => ⟨rfl, fun h6 q6 => ⟨fun _ => ?_, fun y => absurd rfl y⟩⟩, fun y => absurd rfl y⟩
    rw [q6]; exact j48 a b (by rw [if_neg z]) (by rw [if_neg z])
  unfold p_Ti_begin
  rw [r0, e1, n2, le_nn (by omega) (by omega)]
  refine ⟨rfl, rfl, fun z => no2 (fun y => z y.1), fun z => ⟨fun y => no2 (fun x => x.2 y), fun y => ?_⟩⟩
  unfold p_Ti_begin_j21 p_Ti_begin_j34
  refine ⟨fun y => absurd y (by decide), fun _ => ⟨rfl, fun h6 q6 => ⟨fun y => absurd y (by decide), fun _ => ?_⟩⟩⟩
  rw [q6]; exact j48 b a (by rw [if_pos ⟨z, y⟩]) (by rw [if_pos ⟨z, y⟩])
/-- promise 11 -/
theorem o_sell (H : Ok L xs h) (w r a b c u : Int32) {F : Int32 → xH → Prop} (hF : Nx L xs (p_M_sell (12, 0) w r a b c u) F) : p_T_sell (11, 0) w r a b c u h F := by
  obtain ⟨nr, nt, i⟩ := H
  have hnr := i.vc.1
  have hnt := i.vc.2.1
  have x11 := i.vc.2.2.2.2.1
  have x23 := i.vc.2.2.2.2.2
  have e0 : (0 : Int32).toInt = 0 := rfl
  have e1 : (1 : Int32).toInt = 1 := rfl
  have e5 : (5 : Int32).toInt = 5 := rfl
  have e1000 : (1000 : Int32).toInt = 1000 := rfl
  have s2 := SM.to2 i (SM.rf h)
  have mw : ∀ (G : Int32 → xH → Prop) (g : xH), (∀ (q1 : (∀ wn, wn < 6 → w ≠ nI wn) → G (-2) g) (q2 : ∀ wn, wn < 6 → w = nI wn → (kd (12 : Nat) = (1, 10)) ∧ p_M_isThere (12, 0) r g (fun (v6 : Int32) (h5 : xH) => ((¬ v6 = 0 → p_M_barsRow (12, 0) r a b c h5 (fun (v9 : Int32) (h8 : xH) => p_M_in u (1 : Int32) (1000 : Int32) h8 (fun (v11 : Int32) (h10 : xH) => ((v11 = 0 → G (-3 : Int32) h10) ∧ (¬ v11 = 0 → ((¬ v9 = (-3 : Int32) → ((¬ v9 = (-4 : Int32) → p_M_raceOf (12, 0) r h10 (fun (v16 : Int32) (h15 : xH) => ((¬ r = (48 : Int32) → p_M_sell_j86 v16 (12, 0) w r a b c u v16 h15 G) ∧ (r = (48 : Int32) → p_M_sell_j86 (hI h15 (12, 0) 11) (12, 0) w r a b c u v16 h15 G)))) ∧ (v9 = (-4 : Int32) → G (-4 : Int32) h10))) ∧ (v9 = (-3 : Int32) → G (-3 : Int32) h10))))))) ∧ (v6 = 0 → G (-2 : Int32) h5)))), p_M_sell (12, 0) w r a b c u g G) := by
    intro G g q1 q2
    unfold p_M_sell
    refine w_in (fun cc => ⟨fun _ => q1 (fun wn hw e => cc ?_), fun z => absurd rfl z⟩) (fun cc => ⟨fun z => absurd z (by decide), fun _ => ?_⟩)
    · rw [e, ti_n (by omega), e0, e5]; omega
    · rw [e0, e5] at cc
      exact q2 w.toInt.toNat (by omega) (by rw [ti_eq, ti_n (by omega)]; omega)
  unfold p_T_sell
  refine ⟨rfl, w_findPool i (SC.rf h) (fun hno => w_isWindow (fun nw => ?_) (fun wn hw ew => ?_)) (fun p hp there e => w_isWindow (fun nw => ?_) (fun wn hw ew => ?_))⟩
  · exact ⟨fun _ => hF _ _ i.vs (fun G hG => mw G h (fun _ => hG h ⟨nr, nt, i⟩) (fun wn hw ew => absurd ew (nw wn hw))), fun z => absurd rfl z⟩
  · refine ⟨fun z => absurd z (by decide), fun _ => ⟨fun z => absurd rfl z, fun _ => hF _ _ i.vs (fun G hG => mw G h (fun z => absurd ew (z wn hw)) (fun _ _ _ => ⟨rfl, w_isThere i (SM.rf h) (fun _ => ⟨fun z => absurd rfl z, fun _ => hG h ⟨nr, nt, i⟩⟩) (fun p hp c e => absurd e (hno p hp c))⟩))⟩⟩
  · exact ⟨fun _ => hF _ _ i.vs (fun G hG => mw G h (fun _ => hG h ⟨nr, nt, i⟩) (fun wn hw ew => absurd ew (nw wn hw))), fun z => absurd rfl z⟩
  subst e; subst ew
  have rc := prc i hp there
  have mb : ∀ (G : Int32 → xH → Prop) (g : xH), SM2 h g → (∀ (_ : ¬ lgood (hI h) p a b c ∨ ¬ (1 ≤ u.toInt ∧ u.toInt ≤ 1000) → G (-3) g) (_ : lgood (hI h) p a b c → ltwice p a b c → (1 ≤ u.toInt ∧ u.toInt ≤ 1000) → G (-4) g) (_ : lgood (hI h) p a b c → ¬ ltwice p a b c → (1 ≤ u.toInt ∧ u.toInt ≤ 1000) → p_M_sell_j86 (nI (scp (hI h) p)) (12, 0) (nI wn) (nI p) a b c u (nI (frp (hI h) p)) g G), p_M_sell (12, 0) (nI wn) (nI p) a b c u g G) := by
    intro G g sg q1 q2 q3
    refine mw G g (fun z => absurd rfl (z wn hw)) (fun _ _ _ => ⟨rfl, w_isThere2 i sg (fun z => absurd rfl (z p hp there)) (fun _ _ _ _ => ⟨fun _ => w_barsRow2 i sg hp there (fun z => w_in (fun _ => ⟨fun _ => q1 (Or.inl z), fun y => absurd rfl y⟩) (fun _ => ⟨fun y => absurd y (by decide), fun _ => ⟨fun y => absurd rfl y, fun _ => q1 (Or.inl z)⟩⟩)) (fun z z2 => w_in (fun cc => ⟨fun _ => q1 (Or.inr cc), fun y => absurd rfl y⟩) (fun cc => ⟨fun y => absurd y (by decide), fun _ => ⟨fun _ => ⟨fun y => absurd rfl y, fun _ => q2 z z2 cc⟩, fun y => absurd y (by decide)⟩⟩)) (fun z z2 => w_in (fun cc => ⟨fun _ => q1 (Or.inr cc), fun y => absurd rfl y⟩) (fun cc => ⟨fun y => absurd y (by decide), fun _ => ⟨fun _ => ⟨fun _ => w_raceOf2 i sg hp there ?_, fun y => absurd y (by decide)⟩, fun y => absurd y (by decide)⟩⟩)), fun y => absurd y (by decide)⟩)⟩)
    have q := q3 z z2 cc
    refine ⟨fun e => ?_, fun e => ?_⟩
    · rw [rc.2.2.1 (fun e' => e (by rw [e']; rfl))] at q; exact q
    · have e48 : p = 48 := (nI_inj (b := 48) (by omega) (by omega)).mp e
      rw [sg.i 12, ((((i.vp p hp).1 there).2.2.1) e48).2.2]; exact q
  refine ⟨fun z => absurd z (by decide), fun _ => ⟨fun _ => ?_, fun z => absurd z (nz 4 p)⟩⟩
  have no : ¬ (1 ≤ u.toInt ∧ u.toInt ≤ 1000) → F (-3) h := fun cc => hF _ _ i.vs (fun G hG => mb G h s2 (fun _ => hG h ⟨nr, nt, i⟩) (fun _ _ y => absurd y cc) (fun _ _ y => absurd y cc))
  refine ⟨fun cc => no (by rw [ti_lt, e1] at cc; omega), fun cc => ⟨fun cc2 => ⟨rfl, ?_⟩, fun cc2 => no (by rw [ti_le, e1000] at cc2; omega)⟩⟩
  have hu : 1 ≤ u.toInt ∧ u.toInt ≤ 1000 := by
    rw [ti_lt, e1] at cc; rw [ti_le, e1000] at cc2; omega
  refine w_refuseLine i (SC.rf h) hp there (fun z => ⟨fun y => absurd y (by decide), fun _ => hF _ _ i.vs (fun G hG => mb G h s2 (fun _ => hG h ⟨nr, nt, i⟩) (fun y => absurd y z) (fun y => absurd y z))⟩) (fun z z2 => ⟨fun y => absurd y (by decide), fun _ => hF _ _ i.vs (fun G hG => mb G h s2 (fun y => absurd y (fun q => q.elim (absurd z) (absurd hu))) (fun _ _ _ => hG h ⟨nr, nt, i⟩) (fun _ y => absurd z2 y))⟩) (fun z z2 => ⟨fun _ => ?_, fun y => absurd rfl y⟩)
  obtain ⟨A, B, C, ea, eb, ec, mA, mB', mC⟩ := lgood_m i z
  obtain ⟨a', b', c', ea', eb', ec', a1, a2, b2, c2, k1, k2, k3, k4⟩ := lgood_n i hp there z
  have r1 := rn12 i rc.1
  have r2 := rn12 i rc.2.1
  obtain rfl : A = a' := by rw [ea] at ea'; exact (nI_inj (by omega) (by omega)).mp ea'
  obtain rfl : B = b' := by rw [eb] at eb'; exact (nI_inj (by omega) (by omega)).mp eb'
  obtain rfl : C = c' := by rw [ec] at ec'; exact (nI_inj (by omega) (by omega)).mp ec'
  subst ea; subst eb; subst ec
  obtain ⟨U, U1, U2, rfl⟩ : ∃ U, 1 ≤ U ∧ U ≤ 1000 ∧ u = nI U := ⟨u.toInt.toNat, by omega, by omega, by rw [ti_eq, ti_n (by omega)]; omega⟩
  have pr := plr i hp there
  have pk := plk i hp there
  have vrf := i.vr.1 _ rc.1
  have vrs := i.vr.1 _ rc.2.1
  have mj : ∀ (G : Int32 → xH → Prop) (g : xH), SM2 h g → (∀ (_ : (gnn (hI h) (frp (hI h) p) A ∨ gnn (hI h) (scp (hI h) p) B ∨ gnn (hI h) (frp (hI h) p) C) → G (-5) g) (_ : ¬ (gnn (hI h) (frp (hI h) p) A ∨ gnn (hI h) (scp (hI h) p) B ∨ gnn (hI h) (frp (hI h) p) C) → (¬ (hI h (35, 0) (frp (hI h) p) = 0 ∧ hI h (35, 0) (scp (hI h) p) = 0) → G (-6) g) ∧ (hI h (35, 0) (frp (hI h) p) = 0 → hI h (35, 0) (scp (hI h) p) = 0 → (nt = 200 → G (-7) g) ∧ (nt ≠ 200 → ((¬ (kf p = 2 ∧ ¬ A ≤ B) → p_M_sell_j178 0 (12, 0) (nI wn) (nI p) (nI A) (nI B) (nI C) (nI U) g G) ∧ ((kf p = 2 ∧ ¬ A ≤ B) → p_M_sell_j178 1 (12, 0) (nI wn) (nI p) (nI A) (nI B) (nI C) (nI U) g G))))), p_M_sell (12, 0) (nI wn) (nI p) (nI A) (nI B) (nI C) (nI U) g G) := by
    intro G g sg q1 q2
    refine mb G g sg (fun y => absurd y (fun q => q.elim (absurd z) (absurd hu))) (fun _ y => absurd y z2) (fun _ _ _ => ?_)
    unfold p_M_sell_j86
    refine ⟨rfl, w_isGoneN sg (by omega) a2 (fun g1 => ⟨fun y => absurd rfl y, fun _ => w_isGoneN sg (by omega) b2 (fun g2 => ⟨fun y => absurd rfl y, fun _ => w_isGoneN sg (by omega) c2 (fun g3 => ⟨fun _ => ?_, fun y => absurd rfl y⟩) (fun g3 => ⟨fun y => absurd y (by decide), fun _ => q1 (Or.inr (Or.inr g3))⟩)⟩) (fun g2 => ⟨fun _ => q1 (Or.inr (Or.inl g2)), fun y => absurd y (by decide)⟩)⟩) (fun g1 => ⟨fun _ => q1 (Or.inl g1), fun y => absurd y (by decide)⟩)⟩
    have q := q2 (fun y => y.elim g1 (fun y => y.elim g2 g3))
    rw [mR1 sg.2, mS1 sg.2, cl_n (by omega), cl_n (by omega), sg.i 35, sg.i 35, sg.i 12, x23]
    have n200 : nI nt = (200 : Int32) ↔ nt = 200 := nI_inj (b := 200) (by omega) (by omega)
    have hk := kf_le (p := p)
    have n2 : nI (kf p) = (2 : Int32) ↔ kf p = 2 := nI_inj (b := 2) (by omega) (by omega)
    rw [n200]
    refine ⟨rfl, in_n (by omega) (by omega), fun y => q.1 (fun x => y x.1), fun y => ⟨in_n (by omega) (by omega), fun x => ⟨fun n => w_mKindOf hp ?_, fun n => (q.2 y x).1 n⟩, fun x => q.1 (fun t => x t.2)⟩⟩
    rw [n2, le_nn (by omega) (by omega)]
    exact ⟨fun k => ((q.2 y x).2 n).1 (fun t => k t.1), fun k => ⟨fun t => ((q.2 y x).2 n).1 (fun s => s.2 t), fun t => ((q.2 y x).2 n).2 ⟨k, t⟩⟩⟩
  have gone : (gnn (hI h) (frp (hI h) p) A ∨ gnn (hI h) (scp (hI h) p) B ∨ gnn (hI h) (frp (hI h) p) C) → F (-5) h := fun y => hF _ _ i.vs (fun G hG => mj G h s2 (fun _ => hG h ⟨nr, nt, i⟩) (fun x => absurd y x))
  unfold p_Po_hasOut
  rw [pr.2.1]
  have after : ¬ (gnn (hI h) (frp (hI h) p) A ∨ gnn (hI h) (scp (hI h) p) B ∨ gnn (hI h) (frp (hI h) p) C) → (kd (hR h (5, p) 2).1 = (1, 4)) ∧ ((¬ (hI h (hR h (5, p) 2) 7) = 0 → F (-6 : Int32) h) ∧ ((hI h (hR h (5, p) 2) 7) = 0 → (kd (hR h (5, p) 3).1 = (1, 4)) ∧ (((hI h (hR h (5, p) 3) 7) = 0 → (((hI h (11, 0) 11) < (200 : Int32) → (hS h ((10, (hI h (11, 0) 11).toNatClampNeg) : xN) = 0) ∧ ∀ h23 : xH, h23 = nW h ((10, (hI h (11, 0) 11).toNatClampNeg) : xN) 0 → p_Ti_init ((10, (hI h (11, 0) 11).toNatClampNeg) : xN) (5, p) (nI wn) (nI U) h23 (fun h25 : xH => (kd (hR h (11, 0) 2).1 = (5, 8)) ∧ (vp_in (hI h (11, 0) 11) (hS h25 (hR h (11, 0) 2) - 1)) ∧ ∀ h28 : xH, h28 = sR h25 (hR h (11, 0) 2) (hI h (11, 0) 11).toNatClampNeg ((10, (hI h (11, 0) 11).toNatClampNeg) : xN) → (kd (hR h28 (11, 0) 2).1 = (5, 8)) ∧ (vp_in (hI h28 (11, 0) 11) (hS h28 (hR h28 (11, 0) 2) - 1)) ∧ (kd (hR h28 (hR h28 (11, 0) 2) (hI h28 (11, 0) 11).toNatClampNeg).1 = (1, 8)) ∧ p_Ti_begin (hR h28 (hR h28 (11, 0) 2) (hI h28 (11, 0) 11).toNatClampNeg) (nI A) (nI B) (nI C) h28 (fun h33 : xH => ∀ h34 : xH, h34 = sI h33 (11, 0) 11 ((hI h33 (11, 0) 11) + (1 : Int32)) → F ((hI h34 (11, 0) 11) - (1 : Int32)) h34))) ∧ (¬ (hI h (11, 0) 11) < (200 : Int32) → F (-7 : Int32) h))) ∧ (¬ (hI h (hR h (5, p) 3) 7) = 0 → F (-6 : Int32) h)))) := by
    intro ng
    have lt200 : nI nt < (200 : Int32) ↔ nt < 200 := by
      rw [ti_lt, ti_n (by omega), show (200 : Int32).toInt = 200 from rfl]; omega
    rw [pr.2.1, pr.2.2.1, vrf.2.1, vrs.2.1, x11, lt200, cl_n (by omega), xR_11_0_2 i.x]
    refine ⟨rfl, fun s => hF _ _ i.vs (fun G hG => mj G h s2 (fun y => absurd y ng) (fun _ => ⟨fun _ => hG h ⟨nr, nt, i⟩, fun y => absurd y s⟩)), fun s => ⟨rfl, fun ss => ⟨fun lt => ?_, fun lt => hF _ _ i.vs (fun G hG => mj G h s2 (fun y => absurd y ng) (fun _ => ⟨fun y => absurd ⟨s, ss⟩ y, fun _ _ => ⟨fun _ => hG h ⟨nr, nt, i⟩, fun y => absurd (by omega) y⟩⟩))⟩, fun ss => hF _ _ i.vs (fun G hG => mj G h s2 (fun y => absurd y ng) (fun _ => ⟨fun _ => hG h ⟨nr, nt, i⟩, fun _ y => absurd y ss⟩))⟩⟩
    refine ⟨i.st.2 nt (Nat.le_refl _) lt, fun h23 q23 => ⟨by simp, rfl, fun h3 q3 => ⟨by simp, fun h6 q6 h8 q8 h10 q10 => ⟨rfl, ?_, fun h28 q28 => ?_⟩⟩⟩⟩
    · rw [q10, q8, q6, q3, q23]
      simp only [hS_sI, hS_sR, hS_nW]
      rw [if_neg (by simp), xS_29_0 i.x]; exact in_n (by omega) (by omega)
    have I28 : ∀ n j, n ≠ (10, nt) → hI h28 n j = hI h n j := fun n j hn => by
      rw [q28, q10, q8, q6, q3, q23]
      simp [hI_sI, hI_sR, hI_nW, hn]
    have R28 : ∀ n j, n ≠ (10, nt) → ¬ (n = (29, 0) ∧ j = nt) → hR h28 n j = hR h n j := fun n j hn hj => by
      rw [q28, hR_sR, if_neg hj, q10, q8, q6, q3, q23]
      simp [hR_sI, hR_sR, hR_nW, hn]
    have S28 : ∀ n, n ≠ (10, nt) → hS h28 n = hS h n := fun n hn => by
      rw [q28, q10, q8, q6, q3, q23]
      simp [hS_sI, hS_sR, hS_nW, hn]
    have r29 : hR h28 (29, 0) nt = (10, nt) := by rw [q28, hR_sR]; simp
    have r10 : hR h28 (10, nt) 0 = (5, p) := by rw [q28, hR_sR, if_neg (by simp), q10, q8, q6]; simp [hR_sI, hR_sR]
    have t1 : hI h28 (10, nt) 1 = nI wn := by rw [q28, q10, q8, q6, q3, q23]; simp [hI_sI, hI_sR]
    have t2 : hI h28 (10, nt) 2 = nI U := by rw [q28, q10, q8, q6, q3, q23]; simp [hI_sI, hI_sR]
    have t6 : hI h28 (10, nt) 6 = 0 := by rw [q28, q10, q8, q6, q3, q23]; simp [hI_sI, hI_sR]
    clear q28 q10 q8 q6 q3 q23
    rw [R28 (11, 0) 2 (by simp) (by simp), xR_11_0_2 i.x, I28 (11, 0) 11 (by simp), x11, S28 (29, 0) (by simp), xS_29_0 i.x, cl_n (by omega), r29]
    obtain ⟨dn, dn1, dn2, ed⟩ := pk.2.2.2.2.2.1
    refine ⟨rfl, in_n (by omega) (by omega), rfl, w_begin a2 b2 c2 r10 (by rw [R28 _ _ (by simp) (by simp)]; exact pr.2.2.2.1) (by rw [R28 _ _ (by simp) (by simp)]; exact pr.2.2.2.2.2.1) (by rw [S28 _ (by simp)]; exact pr.2.2.2.2.2.2.1) (by rw [S28 _ (by simp)]; exact pr.2.2.2.2.2.2.2.2) (by rw [I28 _ _ (by simp)]; exact pk.2.1) t2 (by rw [I28 _ _ (by simp)]; exact pk.2.2.2.1.trans ed) (fun A1 B1 eA eB h34 q34 => ?_)⟩
    have hA1 : A1 ≤ 12 := by rw [eA]; split <;> assumption
    have hB1 : B1 ≤ 12 := by rw [eB]; split <;> assumption
    have tw : kf p = 2 → A ≠ B := fun k e => z2 (Or.inl ⟨Or.inl k, by rw [e]⟩)
    have tw3 : kf p = 3 → A ≠ B ∧ A ≠ C ∧ B ≠ C := fun k => ⟨fun e => z2 (Or.inl ⟨Or.inr k, by rw [e]⟩), fun e => z2 (Or.inr ⟨k, Or.inl (by rw [e])⟩), fun e => z2 (Or.inr ⟨k, Or.inr (by rw [e])⟩)⟩
    have k2lt : kf p = 2 → A1 < B1 := fun k => by
      have := tw k
      by_cases e : A ≤ B
      · rw [eA, eB, if_neg (fun y => y.2 e), if_neg (fun y => y.2 e)]; omega
      · rw [eA, eB, if_pos ⟨k, e⟩, if_pos ⟨k, e⟩]; omega
    have knot : kf p ≠ 2 → A1 = A ∧ B1 = B := fun k => ⟨by rw [eA, if_neg (fun y => k y.1)], by rw [eB, if_neg (fun y => k y.1)]⟩
    have fm : 1 ≤ A1 ∧ (kf p < 2 → B1 = 0) ∧ (2 ≤ kf p → 1 ≤ B1) ∧ (kf p ≠ 3 → C = 0) ∧ (kf p = 3 → 1 ≤ C ∧ A1 ≠ B1 ∧ A1 ≠ C ∧ B1 ≠ C) ∧ (kf p = 2 → A1 < B1) := by
      refine ⟨?_, fun k => ?_, fun k => ?_, k3, fun k => ?_, k2lt⟩
      · rw [eA]; split
        · rename_i y; exact k2 (by omega)
        · exact a1
      · rw [(knot (by omega)).2]; exact k1 k
      · rw [eB]; split
        · exact a1
        · exact k2 k
      · have y := knot (by omega)
        rw [y.1, y.2]
        exact ⟨k4 k, tw3 k⟩
    rw [lin2_lin k2lt] at q34
    generalize hl : lin (kf p) A1 B1 C = l at *
    have v11 : hI h34 (11, 0) 11 = nI (nt + 1) := by
      rw [q34, hI_sI, if_pos ⟨rfl, rfl⟩]
      unfold bgn
      simp [hI_sI, I28 (11, 0) 11 (by simp), x11, nI_1]
    have a12 : (nI (nt + 1) - (1 : Int32)) = nI nt := (sb_n (a := nt + 1) (b := 1) (by omega)).trans (by rw [Nat.add_sub_cancel])
    have I34 : ∀ n j, n ≠ (10, nt) → ¬ KL [((17, p), l), ((5, p), 9), ((19, p), 0), ((11, 0), 11)] n j → hI h34 n j = hI h n j := fun n j hn hk => by
      rw [← I28 n j hn, q34, hI_sI, if_neg (fun y => hk (by rw [y.1, y.2]; simp [KL]))]
      unfold bgn
      rw [hI_sI, if_neg (fun y => hk (by rw [y.1, y.2]; simp [KL])), hI_sI, if_neg (fun y => hk (by rw [y.1, y.2]; simp [KL])), hI_sI, if_neg (fun y => hk (by rw [y.1, y.2]; simp [KL])), hI_sI, if_neg (fun y => hn y.1), hI_sI, if_neg (fun y => hn y.1), hI_sI, if_neg (fun y => hn y.1)]
    have R34 : hR h34 = hR h28 := by rw [q34]; rfl
    have S34 : hS h34 = hS h28 := by rw [q34]; rfl
    have y17 : hI h34 (17, p) l = hI h (17, p) l + nI U := by rw [q34]; unfold bgn; simp [hI_sI, I28 (17, p) l (by simp)]
    have y5 : hI h34 (5, p) 9 = hI h (5, p) 9 + nI U := by rw [q34]; unfold bgn; simp [hI_sI, I28 (5, p) 9 (by simp)]
    have y19 : hI h34 (19, p) 0 = hI h (19, p) 0 + nI U * nI dn := by rw [q34]; unfold bgn; simp [hI_sI, I28 (19, p) 0 (by simp)]
    have yt : hI h34 (10, nt) 1 = nI wn ∧ hI h34 (10, nt) 2 = nI U ∧ hI h34 (10, nt) 3 = nI A1 ∧ hI h34 (10, nt) 4 = nI B1 ∧ hI h34 (10, nt) 5 = nI C ∧ hI h34 (10, nt) 6 = 0 := by
      rw [q34]; unfold bgn; simp [hI_sI, t1, t2, t6]
    clear q34
    rw [v11, a12]
    have sh34 : Sh (hS h34) (hR h34) := fr2 Sh_rs (S := hS h) (R := hR h) (fun n hn => by rw [S34]; exact S28 n (fun y => by rw [y] at hn; cases hn)) (fun n j hn => by rw [R34]; exact R28 n j (fun y => by rw [y] at hn; cases hn) (fun y => by rw [y.1] at hn; cases hn)) i.1
    have sg : SM2 h h34 := ⟨fun n j hn => I34 n j (fun y => by rw [y] at hn; simp at hn) (fun y => by unfold KL at y; simp at y; rcases y with y | y | y | y <;> (rw [y.1] at hn; simp at hn)), sh34.1⟩
    refine hF _ _ ⟨by rw [S34, S28 _ (by simp)]; exact i.vs.1, fun j => by rw [I34 _ _ (by simp) (by simp [KL])]; exact i.vs.2 j⟩ (fun G hG => mj G h34 sg (fun y => absurd y ng) (fun _ => ⟨fun y => absurd ⟨s, ss⟩ y, fun _ _ => ⟨fun y => by omega, fun _ => ?_⟩⟩))
    have fin : ∀ g0, g0 = sI (sI (sI h34 (58, 0) nt (nI p)) (59, 0) nt (nI A1)) (60, 0) nt (nI B1) → (kd (12 : Nat) = (1, 10)) ∧ (kd (hR g0 (12, 0) 27).1 = (2, 0)) ∧ (vp_in (nI nt) (hS g0 (hR g0 (12, 0) 27) - 1)) ∧ ∀ h58 : xH, h58 = sI g0 (hR g0 (12, 0) 27) nt (nI C) → (kd (hR h58 (12, 0) 28).1 = (2, 0)) ∧ (vp_in (nI nt) (hS h58 (hR h58 (12, 0) 28) - 1)) ∧ ∀ h62 : xH, h62 = sI h58 (hR h58 (12, 0) 28) nt (nI U) → (kd (hR h62 (12, 0) 29).1 = (2, 0)) ∧ (vp_in (nI nt) (hS h62 (hR h62 (12, 0) 29) - 1)) ∧ ∀ h66 : xH, h66 = sI h62 (hR h62 (12, 0) 29) nt (0 : Int32) → (kd (hR h66 (12, 0) 30).1 = (2, 0)) ∧ (vp_in (nI nt) (hS h66 (hR h66 (12, 0) 30) - 1)) ∧ ∀ h70 : xH, h70 = sI h66 (hR h66 (12, 0) 30) nt (nI wn) → ∀ h72 : xH, h72 = sI h70 (12, 0) 23 ((hI h70 (12, 0) 23) + (1 : Int32)) → (kd (hR h72 (12, 0) 12).1 = (2, 0)) ∧ (vp_in (nI p) (hS h72 (hR h72 (12, 0) 12) - 1)) ∧ p_M_stake (12, 0) (nI nt) h72 (fun (v77 : Int32) (h76 : xH) => (vp_in (nI p) (hS h76 (hR h72 (12, 0) 12) - 1)) ∧ ∀ h79 : xH, h79 = sI h76 (hR h72 (12, 0) 12) (nI p).toNatClampNeg ((hI h72 (hR h72 (12, 0) 12) (nI p).toNatClampNeg) + v77) → G (nI nt) h79) := by
      intro g0 q0
      have m0 : ShM (hS g0) (hR g0) := by rw [q0]; exact sh34.1
      rw [mR27 m0, mS27 m0, cl_n (by omega)]
      refine ⟨rfl, rfl, in_n (by omega) (by omega), fun h58 q58 => ?_⟩
      have m58 : ShM (hS h58) (hR h58) := by rw [q58]; exact m0
      rw [mR28 m58, mS28 m58]
      refine ⟨rfl, in_n (by omega) (by omega), fun h62 q62 => ?_⟩
      have m62 : ShM (hS h62) (hR h62) := by rw [q62]; exact m58
      rw [mR29 m62, mS29 m62]
      refine ⟨rfl, in_n (by omega) (by omega), fun h66 q66 => ?_⟩
      have m66 : ShM (hS h66) (hR h66) := by rw [q66]; exact m62
      rw [mR30 m66, mS30 m66]
      refine ⟨rfl, in_n (by omega) (by omega), fun h70 q70 h72 q72 => ?_⟩
      have m72 : ShM (hS h72) (hR h72) := by rw [q72, q70]; exact m66
      have z23 : hI h70 (12, 0) 23 = nI nt := by rw [q70, q66, q62, q58, q0]; simp only [hI_sI]; simp [sg.i 12, x23]
      rw [z23, nI_1] at q72
      have z58 : hI h72 (58, 0) nt = nI p := by rw [q72, q70, q66, q62, q58, q0]; simp [hI_sI]
      have z62 : hI h72 (62, 0) nt = nI U := by rw [q72, q70, q66, q62, q58, q0]; simp [hI_sI]
      have z42 : hI h72 (42, 0) p = nI dn := by rw [q72, q70, q66, q62, q58, q0]; simp only [hI_sI]; simp [sg.i 42, ed]
      have z46 : hI h72 (46, 0) p = hI h (46, 0) p := by rw [q72, q70, q66, q62, q58, q0]; simp only [hI_sI]; simp [sg.i 46]
      rw [mR12 m72, mS12 m72]
      refine ⟨rfl, in_n (by omega) (by omega), w_mstake m72 (by omega) hp z58 ⟨by rw [mS12 m72]; exact in_n (by omega) (by omega), fun h79 q79 => hG h79 ⟨nr, nt + 1, ?_⟩⟩⟩
      rw [z62, z42, z46] at q79
      have oJ : ∀ n j, ¬ KL [((58, 0), nt), ((59, 0), nt), ((60, 0), nt), ((61, 0), nt), ((62, 0), nt), ((63, 0), nt), ((64, 0), nt), ((12, 0), 23), ((46, 0), p)] n j → hI h79 n j = hI h34 n j := fun n j hk => by
        have f : ∀ {m : xN} {q : Nat}, (m, q) ∈ [((58, 0), nt), ((59, 0), nt), ((60, 0), nt), ((61, 0), nt), ((62, 0), nt), ((63, 0), nt), ((64, 0), nt), ((12, 0), 23), ((46, 0), p)] → ¬ (n = m ∧ j = q) := fun hm y => hk (by rw [y.1, y.2]; exact hm)
        rw [q79, q72, q70, q66, q62, q58, q0, hI_sI, if_neg (f (by simp)), hI_sI, if_neg (f (by simp)), hI_sI, if_neg (f (by simp)), hI_sI, if_neg (f (by simp)), hI_sI, if_neg (f (by simp)), hI_sI, if_neg (f (by simp)), hI_sI, if_neg (f (by simp)), hI_sI, if_neg (f (by simp)), hI_sI, if_neg (f (by simp))]
      have R79 : hR h79 = hR h28 := by rw [q79, q72, q70, q66, q62, q58, q0]; exact R34
      have S79 : hS h79 = hS h28 := by rw [q79, q72, q70, q66, q62, q58, q0]; exact S34
      have uns : hI h (43, 0) p = 0 := by
        rcases i.vq p hp there with y | y
        · rw [s] at y; exact absurd y.2.1 (by decide)
        · exact y.1
      refine i.sold (l := l) (stk := nI U * nI dn) (w := wn) lt hp there uns hl.symm hA1 hB1 c2 U1 U2 fm (fun n j hn hk => ?_) (fun n j hn hj => ?_) (fun n hn => ?_) ?_ ?_ ?_ ?_ ?_ ?_ ?_ ?_ ?_ ?_
      · rw [oJ n j (fun y => hk (by unfold KL at y ⊢; simp at y ⊢; rcases y with y | y | y | y | y | y | y | y | y <;> simp [y])), I34 n j hn (fun y => hk (by unfold KL at y ⊢; simp at y ⊢; rcases y with y | y | y | y <;> simp [y]))]
      · rw [R79]; exact R28 n j hn hj
      · rw [S79]; exact S28 n hn
      · rw [oJ _ _ (by simp [KL])]; exact y17
      · rw [oJ _ _ (by simp [KL])]; exact y5
      · rw [oJ _ _ (by simp [KL])]; exact y19
      · rw [q79, hI_sI]; simp
      · rw [oJ _ _ (by simp [KL])]; exact v11
      · rw [q79, hI_sI, if_neg (by simp), q72, hI_sI]; simp
      · rw [R79]; exact r29
      · rw [R79]; exact r10
      · rw [oJ _ _ (by simp [KL]), oJ _ _ (by simp [KL]), oJ _ _ (by simp [KL]), oJ _ _ (by simp [KL]), oJ _ _ (by simp [KL]), oJ _ _ (by simp [KL])]; exact yt
      · rw [q79, q72, q70, q66, q62, q58, q0]; simp [hI_sI]
    have j178 : ∀ s0 : Int32, (s0 = 0 → A1 = A ∧ B1 = B) → (¬ s0 = 0 → A1 = B ∧ B1 = A) → p_M_sell_j178 s0 (12, 0) (nI wn) (nI p) (nI A) (nI B) (nI C) (nI U) h34 G := fun s0 f0 f1 => by
      unfold p_M_sell_j178 p_M_sell_j211 p_M_sell_j229
      refine ⟨rfl, fun v38 e38 => ?_⟩
      rw [sg.i 12, x23] at e38
      subst e38
      rw [mR24 sg.2, mS24 sg.2, cl_n (by omega)]
      refine ⟨rfl, in_n (by omega) (by omega), fun h42 q42 => ?_⟩
      have m42 : ShM (hS h42) (hR h42) := by rw [q42]; exact sg.2
      rw [mR25 m42, mS25 m42]
      refine ⟨fun y => ⟨rfl, in_n (by omega) (by omega), fun h47 q47 => ⟨rfl, fun _ => ?_, fun x => absurd y x⟩⟩, fun y => ⟨rfl, in_n (by omega) (by omega), fun h47 q47 => ⟨rfl, fun x => absurd x y, fun _ => ?_⟩⟩⟩
      all_goals
        have m47 : ShM (hS h47) (hR h47) := by rw [q47]; exact m42
        rw [mR26 m47, mS26 m47]
        refine ⟨rfl, in_n (by omega) (by omega), fun h53 q53 => fin h53 ?_⟩
      · rw [q53, q47, q42, (f0 y).1, (f0 y).2]
      · rw [q53, q47, q42, (f1 y).1, (f1 y).2]
    refine ⟨fun y => j178 0 (fun _ => ?_) (fun x => absurd rfl x), fun y => j178 1 (fun x => absurd x (by decide)) (fun _ => ?_)⟩
    · rw [eA, eB, if_neg y, if_neg y]; exact ⟨rfl, rfl⟩
    · rw [eA, eB, if_pos y, if_pos y]; exact ⟨rfl, rfl⟩
  refine ⟨rfl, rfl, w_isOutN i rc.1 mA (fun g1 => ⟨fun y => absurd rfl y, fun _ => ?_⟩) (fun g1 => ⟨fun _ => ⟨fun y => absurd y (by decide), fun _ => gone (Or.inl g1)⟩, fun y => absurd y (by decide)⟩)⟩
  rw [pr.2.2.1]
  refine ⟨rfl, w_isOutN i rc.2.1 mB' (fun g2 => ⟨fun y => absurd rfl y, fun _ => ?_⟩) (fun g2 => ⟨fun _ => ⟨fun y => absurd y (by decide), fun _ => gone (Or.inr (Or.inl g2))⟩, fun y => absurd y (by decide)⟩)⟩
  rw [pr.2.1]
  exact ⟨rfl, w_isOutN i rc.1 mC (fun g3 => ⟨fun _ => ⟨fun _ => after (fun y => y.elim g1 (fun y => y.elim g2 g3)), fun y => absurd rfl y⟩, fun y => absurd rfl y⟩) (fun g3 => ⟨fun y => absurd y (by decide), fun _ => ⟨fun y => absurd y (by decide), fun _ => gone (Or.inr (Or.inr g3))⟩⟩)⟩
end Sell
