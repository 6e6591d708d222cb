section Lines
variable {qq : Prop} {L : Nat} {xs : Nat → Int32} {nr nt : Nat} {v h g : xH}
def isRn (I : xN → Nat → Int32) (r : Nat) (x : Int32) : Prop := ∃ k, 1 ≤ k ∧ k ≤ (I (36, 0) r).toNatClampNeg ∧ x = nI k
theorem rn12 (i : InvQ qq L xs nr nt v) {j : Nat} (hj : j < nr) : (hI v (36, 0) j).toNatClampNeg ≤ 12 := by
  obtain ⟨n, u, a1, a2, a3, a4, a5, -⟩ := VR_run i.vr hj
  rw [a5, cl_n (by omega)]; exact a2
theorem w_hasR (i : InvQ qq L xs nr nt v) (s : SC v h) {j : Nat} (hj : j < nr) {x : Int32} {Q : Int32 → xH → Prop} (no : ¬ isRn (hI v) j x → Q 0 h) (yes : isRn (hI v) j x → Q 1 h) : p_R_hasRunner (6, j) x h Q := by
  obtain ⟨n, u, a1, a2, a3, a4, a5, -⟩ := VR_run i.vr hj
  have e : (hI v (36, 0) j).toNatClampNeg = n := by rw [a5, cl_n (by omega)]
  unfold isRn at no yes
  rw [e] at no yes
  exact w_hasRunner rfl (by rw [s.i 6 j 0]; exact a4) a2 (fun c => no (fun ⟨k, k1, k2, k3⟩ => c k k1 k2 k3)) (fun k k1 k2 k3 => yes ⟨k, k1, k2, k3⟩)
theorem w_isR (i : InvQ qq L xs nr nt v) (s : SM v g) {j : Nat} (hj : j < nr) {x : Int32} {Q : Int32 → xH → Prop} (no : ¬ isRn (hI v) j x → Q 0 g) (yes : isRn (hI v) j x → Q 1 g) : p_M_isRunner (12, 0) (nI j) x g Q := by
  have hn' := i.vc.1
  obtain ⟨n, u, a1, a2, a3, a4, a5, -⟩ := VR_run i.vr hj
  have e : (hI v (36, 0) j).toNatClampNeg = n := by rw [a5, cl_n (by omega)]
  have m := SM.m i s
  have e1 : (1 : Int32).toInt = 1 := rfl
  unfold isRn at no yes
  rw [e] at no yes
  unfold p_M_isRunner
  rw [mR2 m, mS2 m, cl_n (by omega), s.i 36, a5]
  refine ⟨rfl, rfl, in_n (by omega) (by omega), w_in (fun c => ⟨Or.inl rfl, no (fun ⟨k, k1, k2, k3⟩ => ?_)⟩) (fun c => ⟨Or.inr rfl, ?_⟩)⟩
  · rw [k3, ti_n (by omega), ti_n (by omega), e1] at c; omega
  · rw [ti_n (by omega), e1] at c
    exact yes ⟨x.toInt.toNat, by omega, by omega, by rw [ti_eq, ti_n (by omega)]; omega⟩
def lB (I : xN → Nat → Int32) (p : Nat) (b : Int32) : Prop := if kf p < 2 then b = 0 else isRn I (scp I p) b
def lC (I : xN → Nat → Int32) (p : Nat) (c : Int32) : Prop := if kf p = 3 then isRn I (frp I p) c else c = 0
def lgood (I : xN → Nat → Int32) (p : Nat) (a b c : Int32) : Prop := isRn I (frp I p) a ∧ lB I p b ∧ lC I p c
def ltwice (p : Nat) (a b c : Int32) : Prop := (kf p = 2 ∨ kf p = 3) ∧ a = b ∨ kf p = 3 ∧ (a = c ∨ b = c)
theorem nk {k : Nat} (hk : k ≤ 4) : (nI k = (0 : Int32) ↔ k = 0) ∧ (nI k = (1 : Int32) ↔ k = 1) ∧ (nI k = (2 : Int32) ↔ k = 2) ∧ (nI k = (3 : Int32) ↔ k = 3) ∧ (nI k = (4 : Int32) ↔ k = 4) :=
  ⟨nI_inj (b := 0) (by omega) (by omega), nI_inj (b := 1) (by omega) (by omega), nI_inj (b := 2) (by omega) (by omega), nI_inj (b := 3) (by omega) (by omega), nI_inj (b := 4) (by omega) (by omega)⟩
theorem prc (i : InvQ qq L xs nr nt v) {p : Nat} (hp : p < 49) (c : hI v (40, 0) p = 1) : frp (hI v) p < nr ∧ scp (hI v) p < nr ∧ (p ≠ 48 → scp (hI v) p = frp (hI v) p) ∧ (p = 48 ↔ kf p = 4) := by
  have z := (i.vp p hp).1 c
  refine ⟨z.1, z.2.1, fun e => by unfold scp frp; rw [if_neg e, if_neg e], ?_⟩
  unfold kf
  by_cases e : p = 48
  · simp [e]
  · simp [e]; omega
theorem w_refuseLine (i : InvQ qq L xs nr nt v) (s : SC v h) {p : Nat} (hp : p < 49) (there : hI v (40, 0) p = 1) {a b c : Int32} {Q : Int32 → xH → Prop} (no : ¬ lgood (hI v) p a b c → Q (-3) h) (same : lgood (hI v) p a b c → ltwice p a b c → Q (-4) h) (ok : lgood (hI v) p a b c → ¬ ltwice p a b c → Q 0 h) : p_Po_refuseLine (5, p) a b c h Q := by
  have pr := plr i hp there
  have pk := plk i hp there
  have rc := prc i hp there
  have hk := kf_le (p := p)
  obtain ⟨n0, n1, n2, n3, n4⟩ := nk hk
  have e51 : hI h (5, p) 1 = nI (kf p) := by rw [s.i 5 p 1]; exact pk.2.1
  have R2 : hR h (5, p) 2 = (6, frp (hI v) p) := by rw [s.2.2]; exact pr.2.1
  have R3 : hR h (5, p) 3 = (6, scp (hI v) p) := by rw [s.2.2]; exact pr.2.2.1
  have j119 : ∀ w : Int32, (w = 0 → Q 0 h) → (¬ w = 0 → ¬ kf p = 4 → Q (-4) h) → (kf p = 4 → Q 0 h) → p_Po_refuseLine_j119 w (5, p) h Q := fun w q0 q1 q4 => by
    unfold p_Po_refuseLine_j119
    rw [e51, n4]
    exact ⟨rfl, fun z => q4 z, fun z => ⟨fun y => q0 y, fun y => q1 y z⟩⟩
  have j65 : ∀ w u : Int32, (w = 0 ↔ ¬ lC (hI v) p c) → (u = 0 ↔ ¬ lB (hI v) p b) → p_Po_refuseLine_j65 w (5, p) a b c u h Q := fun w u hw hu => by
    unfold p_Po_refuseLine_j65
    rw [R2]
    refine ⟨rfl, rfl, w_hasR i s rc.1 (fun z => ⟨fun _ => no (fun y => z y.1), fun z => absurd rfl z⟩) (fun z => ⟨fun z => absurd z (by decide), fun _ => ⟨fun z2 => no (fun y => (hu.mp z2) y.2.1), fun z2 => ⟨fun z3 => ?_, fun z3 => no (fun y => (hw.mp z3) y.2.2)⟩⟩⟩)⟩
    have B : lB (hI v) p b := Classical.not_not.mp (fun y => z2 (hu.mpr y))
    have C : lC (hI v) p c := Classical.not_not.mp (fun y => z3 (hw.mpr y))
    have G : lgood (hI v) p a b c := ⟨z, B, C⟩
    rw [e51, n3]
    refine ⟨fun ab => j119 1 (fun y => absurd y (by decide)) (fun _ k4 => ?_) (fun k4 => ok G (fun t => by unfold ltwice at t; omega)), fun ab => ⟨fun k3 => j119 0 (fun _ => ok G (fun t => ?_)) (fun y => absurd rfl y) (fun _ => ok G (fun t => ?_)), fun k3 => ⟨fun ac => j119 1 (fun y => absurd y (by decide)) (fun _ _ => same G (Or.inr ⟨k3, Or.inl ac⟩)) (fun k4 => by omega), fun ac => ⟨fun bc => j119 0 (fun _ => ok G (fun t => ?_)) (fun y => absurd rfl y) (fun _ => by omega), fun bc => j119 1 (fun y => absurd y (by decide)) (fun _ _ => same G (Or.inr ⟨k3, Or.inr bc⟩)) (fun k4 => by omega)⟩⟩⟩⟩
    · refine same G (Or.inl ⟨?_, ab⟩)
      have : ¬ kf p < 2 := fun k2 => by
        unfold lB at B
        rw [if_pos k2] at B
        obtain ⟨k, k1, k22, k33⟩ := z
        have := rn12 i rc.1
        rw [← ab, k33] at B
        have B' : nI k = nI 0 := B
        rw [nI_inj (by omega) (by omega)] at B'
        omega
      omega
    · rcases t with t | t
      · exact ab t.2
      · exact k3 t.1
    · rcases t with t | t
      · exact ab t.2
      · exact k3 t.1
    · rcases t with t | t
      · exact ab t.2
      · exact t.2.elim ac bc
  have j35 : ∀ u : Int32, (u = 0 ↔ ¬ lB (hI v) p b) → p_Po_refuseLine_j35 u (5, p) a b c h Q := fun u hu => by
    unfold p_Po_refuseLine_j35
    rw [e51, n3, R2]
    refine ⟨rfl, fun k3 => ⟨fun z => j65 0 u ⟨fun _ y => ?_, fun _ => rfl⟩ hu, fun z => j65 1 u ⟨fun y => absurd y (by decide), fun y => absurd ?_ y⟩ hu⟩, fun k3 => ⟨rfl, w_hasR i s rc.1 (fun z => j65 0 u ⟨fun _ y => ?_, fun _ => rfl⟩ hu) (fun z => j65 1 u ⟨fun y => absurd y (by decide), fun y => absurd ?_ y⟩ hu)⟩⟩
    · unfold lC at y; rw [if_neg k3] at y; exact z y
    · unfold lC; rw [if_neg k3]; exact z
    · unfold lC at y; rw [if_pos k3] at y; exact z y
    · unfold lC; rw [if_pos k3]; exact z
  have j15 : kf p < 2 → p_Po_refuseLine_j15 (5, p) a b c h Q := fun k2 => by
    unfold p_Po_refuseLine_j15
    refine ⟨fun z => j35 0 ⟨fun _ y => ?_, fun _ => rfl⟩, fun z => j35 1 ⟨fun y => absurd y (by decide), fun y => absurd ?_ y⟩⟩
    · unfold lB at y; rw [if_pos k2] at y; exact z y
    · unfold lB; rw [if_pos k2]; exact z
  unfold p_Po_refuseLine
  rw [e51, n0, n1, R3]
  refine ⟨rfl, fun z => j15 (by omega), fun z => ⟨fun z1 => ⟨rfl, w_hasR i s rc.2.1 (fun y => j35 0 ⟨fun _ x => ?_, fun _ => rfl⟩) (fun y => j35 1 ⟨fun x => absurd x (by decide), fun x => absurd ?_ x⟩)⟩, fun z1 => j15 (by omega)⟩⟩
  · unfold lB at x; rw [if_neg (by omega)] at x; exact y x
  · unfold lB; rw [if_neg (by omega)]; exact y
theorem w_barsRow (i : Inv L xs nr nt v) (s : SM v g) {p : Nat} (hp : p < 49) (there : hI v (40, 0) p = 1) {a b c : Int32} {Q : Int32 → xH → Prop} (no : ¬ lgood (hI v) p a b c → Q (-3) g) (same : lgood (hI v) p a b c → ltwice p a b c → Q (-4) g) (ok : lgood (hI v) p a b c → ¬ ltwice p a b c → Q 0 g) : p_M_barsRow (12, 0) (nI p) a b c g Q := by
  have rc := prc i hp there
  have hk := kf_le (p := p)
  obtain ⟨n0, n1, n2, n3, n4⟩ := nk hk
  have j165 : ∀ w : Int32, (w = 0 → Q 0 g) → (¬ w = 0 → Q (-4) g) → p_M_barsRow_j165 w g Q := fun w q0 q1 => ⟨q0, q1⟩
  have j142 : lgood (hI v) p a b c → (¬ ((kf p = 2 ∨ kf p = 3) ∧ a = b)) → p_M_barsRow_j142 a b c (nI (kf p)) g Q := fun G nab => by
    unfold p_M_barsRow_j142
    rw [n3]
    refine ⟨fun k3 => j165 0 (fun _ => ok G (fun t => ?_)) (fun y => absurd rfl y), fun k3 => ⟨fun ac => j165 1 (fun y => absurd y (by decide)) (fun _ => same G (Or.inr ⟨k3, Or.inl ac⟩)), fun ac => ⟨fun bc => j165 0 (fun _ => ok G (fun t => ?_)) (fun y => absurd rfl y), fun bc => j165 1 (fun y => absurd y (by decide)) (fun _ => same G (Or.inr ⟨k3, Or.inr bc⟩))⟩⟩⟩
    · rcases t with t | t
      · exact nab t
      · exact k3 t.1
    · rcases t with t | t
      · exact nab t
      · exact t.2.elim ac bc
  have j137 : lgood (hI v) p a b c → (kf p = 2 ∨ kf p = 3) → p_M_barsRow_j137 a b c (nI (kf p)) g Q := fun G k23 => by
    unfold p_M_barsRow_j137
    exact ⟨fun ab => j165 1 (fun y => absurd y (by decide)) (fun _ => same G (Or.inl ⟨k23, ab⟩)), fun ab => j142 G (fun t => ab t.2)⟩
  have j117 : ∀ w : Int32, (w = 0 ↔ ¬ lgood (hI v) p a b c) → p_M_barsRow_j117 a b c (nI (kf p)) w g Q := fun w hw => by
    unfold p_M_barsRow_j117
    rw [n2, n3]
    refine ⟨fun z => ?_, fun z => no (hw.mp z)⟩
    have G : lgood (hI v) p a b c := Classical.not_not.mp (fun y => z (hw.mpr y))
    exact ⟨fun k2 => j137 G (Or.inl k2), fun k2 => ⟨fun k3 => j142 G (fun t => by omega), fun k3 => j137 G (Or.inr k3)⟩⟩
  have i0 : ¬ lgood (hI v) p a b c → p_M_barsRow_j117 a b c (nI (kf p)) 0 g Q := fun z => j117 0 ⟨fun _ => z, fun _ => rfl⟩
  have i1 : lgood (hI v) p a b c → p_M_barsRow_j117 a b c (nI (kf p)) 1 g Q := fun z => j117 1 ⟨fun y => absurd y (by decide), fun y => absurd z y⟩
  have j33 : kf p < 2 → ∀ w : Int32, (w = 0 ↔ ¬ isRn (hI v) (frp (hI v) p) a) → p_M_barsRow_j33 a b c (nI (kf p)) w g Q := fun k2 w hw => by
    unfold p_M_barsRow_j33
    have eB : lB (hI v) p b ↔ b = 0 := by unfold lB; rw [if_pos k2]
    have eC : lC (hI v) p c ↔ c = 0 := by unfold lC; rw [if_neg (by omega)]
    refine ⟨fun z => i0 (fun y => (hw.mp z) y.1), fun z => ⟨fun zb => i0 (fun y => zb (eB.mp y.2.1)), fun zb => ⟨fun zc => i0 (fun y => zc (eC.mp y.2.2)), fun zc => i1 ⟨Classical.not_not.mp (fun y => z (hw.mpr y)), eB.mpr zb, eC.mpr zc⟩⟩⟩⟩
  have j78 : ¬ kf p < 2 → isRn (hI v) (frp (hI v) p) a → p_M_barsRow_j78 (nI (scp (hI v) p)) (12, 0) (12, 0) a b c (nI (kf p)) (nI (frp (hI v) p)) g Q := fun k2 za => by
    unfold p_M_barsRow_j78
    have eB : lB (hI v) p b ↔ isRn (hI v) (scp (hI v) p) b := by unfold lB; rw [if_neg k2]
    refine ⟨rfl, w_isR i s rc.2.1 (fun zb => ⟨fun _ => i0 (fun y => zb (eB.mp y.2.1)), fun z => absurd rfl z⟩) (fun zb => ⟨fun z => absurd z (by decide), fun _ => ?_⟩)⟩
    rw [n3]
    refine ⟨fun k3 => ?_, fun k3 => ⟨rfl, ?_⟩⟩
    · have eC : lC (hI v) p c ↔ c = 0 := by unfold lC; rw [if_neg k3]
      exact ⟨fun zc => i0 (fun y => zc (eC.mp y.2.2)), fun zc => i1 ⟨za, eB.mpr zb, eC.mpr zc⟩⟩
    · have eC : lC (hI v) p c ↔ isRn (hI v) (frp (hI v) p) c := by unfold lC; rw [if_pos k3]
      exact w_isR i s rc.1 (fun zc => ⟨fun _ => i0 (fun y => zc (eC.mp y.2.2)), fun z => absurd rfl z⟩) (fun zc => ⟨fun z => absurd z (by decide), fun _ => i1 ⟨za, eB.mpr zb, eC.mpr zc⟩⟩)
  unfold p_M_barsRow
  refine w_mKindOf hp ⟨rfl, w_raceOf i s hp there ?_⟩
  rw [n0, n1, n4]
  refine w_isR i s rc.1 (fun za => ⟨fun k0 => j33 (by omega) 0 ⟨fun _ => za, fun _ => rfl⟩, fun k0 => ⟨fun k1 => ⟨fun _ => i0 (fun y => za y.1), fun z => absurd rfl z⟩, fun k1 => j33 (by omega) 0 ⟨fun _ => za, fun _ => rfl⟩⟩⟩) (fun za => ⟨fun k0 => j33 (by omega) 1 ⟨fun y => absurd y (by decide), fun y => absurd za y⟩, fun k0 => ⟨fun k1 => ⟨fun z => absurd z (by decide), fun _ => ⟨fun k4 => ?_, fun k4 => ?_⟩⟩, fun k1 => j33 (by omega) 1 ⟨fun y => absurd y (by decide), fun y => absurd za y⟩⟩⟩)
  · have q := j78 (by omega) za
    rw [rc.2.2.1 (fun e => k4 (rc.2.2.2.mp e))] at q
    exact q
  · have q := j78 (by omega) za
    rw [s.i 12, ((((i.vp p hp).1 there).2.2.1) (rc.2.2.2.mpr k4)).2.2]
    exact q
/-- a good line as numbers -/
theorem lgood_n (i : InvQ qq L xs nr nt v) {p : Nat} (hp : p < 49) (there : hI v (40, 0) p = 1) {a b c : Int32} (G : lgood (hI v) p a b c) : ∃ a' b' c', a = nI a' ∧ b = nI b' ∧ c = nI c' ∧ 1 ≤ a' ∧ a' ≤ 12 ∧ b' ≤ 12 ∧ c' ≤ 12 ∧ (kf p < 2 → b' = 0) ∧ (2 ≤ kf p → 1 ≤ b') ∧ (kf p ≠ 3 → c' = 0) ∧ (kf p = 3 → 1 ≤ c') := by
  have rc := prc i hp there
  have r1 := rn12 i rc.1
  have r2 := rn12 i rc.2.1
  obtain ⟨⟨a', a1, a2, a3⟩, B, C⟩ := G
  obtain ⟨b', b1, b2, b3, b4⟩ : ∃ b', b = nI b' ∧ b' ≤ 12 ∧ (kf p < 2 → b' = 0) ∧ (2 ≤ kf p → 1 ≤ b') := by
    unfold lB at B
    by_cases k : kf p < 2
    · rw [if_pos k] at B; exact ⟨0, B, by omega, fun _ => rfl, fun z => by omega⟩
    · rw [if_neg k] at B
      obtain ⟨b', b1, b2, b3⟩ := B
      exact ⟨b', b3, by omega, fun z => absurd z k, fun _ => b1⟩
  obtain ⟨c', c1, c2, c3, c4⟩ : ∃ c', c = nI c' ∧ c' ≤ 12 ∧ (kf p ≠ 3 → c' = 0) ∧ (kf p = 3 → 1 ≤ c') := by
    unfold lC at C
    by_cases k : kf p = 3
    · rw [if_pos k] at C
      obtain ⟨b', b1, b2, b3⟩ := C
      exact ⟨b', b3, by omega, fun z => absurd k z, fun _ => b1⟩
    · rw [if_neg k] at C; exact ⟨0, C, by omega, fun _ => rfl, fun z => absurd z k⟩
  exact ⟨a', b', c', a3, b1, c1, a1, by omega, b2, c2, b3, b4, c3, c4⟩
/-- a ticket is for a line just if its line is that one -/
theorem isF_line {k A B C a b c : Nat} (hk : k ≤ 4) (hA : A ≤ 12) (hB : B ≤ 12) (hC : C ≤ 12) (ha : a ≤ 12) (hb : b ≤ 12) (hc : c ≤ 12) (f1 : k < 2 → B = 0) (f3 : k ≠ 3 → C = 0) (f2 : k = 2 → A < B) (g1 : k < 2 → b = 0) (g3 : k ≠ 3 → c = 0) : ((A = a ∧ B = b ∧ C = c) ∨ (k = 2 ∧ A = b ∧ B = a)) ↔ lin k A B C = lin2 k a b c := by
  unfold lin2 lin
  rcases k5 hk with rfl | rfl | rfl | rfl | rfl <;> simp
  · have := f1 (by omega); have := g1 (by omega); have := f3 (by omega); have := g3 (by omega); omega
  · have := f1 (by omega); have := g1 (by omega); have := f3 (by omega); have := g3 (by omega); omega
  · have := f2 rfl; have := f3 (by omega); have := g3 (by omega)
    by_cases e : b ≤ a
    · rw [if_pos e]; omega
    · rw [if_neg e]; omega
  · omega
  · have := f3 (by omega); have := g3 (by omega); omega
theorem w_isFor (i : InvQ qq L xs nr nt v) (s : SM v g) {t p a b c : Nat} (ht : t < nt) (hp : p < 49) (ha : a ≤ 12) (hb : b ≤ 12) (hc : c ≤ 12) (g1 : kf p < 2 → b = 0) (g3 : kf p ≠ 3 → c = 0) {Q : Int32 → xH → Prop} (no : ¬ (hI v (58, 0) t = nI p ∧ tl (hI v) t = lin2 (kf p) a b c) → Q 0 g) (yes : hI v (58, 0) t = nI p ∧ tl (hI v) t = lin2 (kf p) a b c → Q 1 g) : p_M_isFor (12, 0) (nI t) (nI p) (nI a) (nI b) (nI c) g Q := by
  have hn := i.vc.2.1
  have m := SM.m i s
  obtain ⟨p', A, B, C, u, k⟩ := tkf i ht
  have hp' := k.p49; have hA := k.a12; have hB := k.b12; have hC := k.c12
  have fm := k.form
  have hk := kf_le (p := p)
  obtain ⟨n0, n1, n2, n3, n4⟩ := nk hk
  have key : (hI v (58, 0) t = nI p ∧ tl (hI v) t = lin2 (kf p) a b c) ↔ (p' = p ∧ ((A = a ∧ B = b ∧ C = c) ∨ (kf p = 2 ∧ A = b ∧ B = a))) := by
    rw [k.pool, nI_inj (by omega) (by omega), tl_eq k]
    constructor
    · rintro ⟨e, e2⟩
      subst e
      exact ⟨rfl, (isF_line hk hA hB hC ha hb hc fm.2.1 fm.2.2.2.1 fm.2.2.2.2.2 g1 g3).mpr e2⟩
    · rintro ⟨e, e2⟩
      subst e
      exact ⟨rfl, (isF_line hk hA hB hC ha hb hc fm.2.1 fm.2.2.2.1 fm.2.2.2.2.2 g1 g3).mp e2⟩
  rw [key] at no yes
  have ic : ∀ (x y : Nat), x ≤ 12 → y ≤ 12 → (nI x = nI y ↔ x = y) := fun x y hx hy => nI_inj (by omega) (by omega)
  have ip : nI p' = nI p ↔ p' = p := nI_inj (by omega) (by omega)
  have j73 : ∀ w u : Int32, (w = 0 ↔ ¬ (kf p = 2 ∧ A = b ∧ B = a)) → (u = 0 ↔ ¬ (A = a ∧ B = b ∧ C = c)) → p_M_isFor_j73 w (12, 0) (nI t) (nI p) u g Q := fun w u hw hu => by
    unfold p_M_isFor_j73
    rw [mR24 m, mS24 m, cl_n (by omega), s.i 58, k.pool, ip]
    refine ⟨rfl, rfl, in_n (by omega) (by omega), fun z => no (fun y => z y.1), fun z => ⟨fun y => yes ⟨z, Or.inl (Classical.not_not.mp (fun x => y (hu.mpr x)))⟩, fun y => ⟨fun x => no (fun q => q.2.elim (hu.mp y) (hw.mp x)), fun x => yes ⟨z, Or.inr (Classical.not_not.mp (fun q => x (hw.mpr q)))⟩⟩⟩⟩
  have j37 : ∀ u : Int32, (u = 0 ↔ ¬ (A = a ∧ B = b ∧ C = c)) → p_M_isFor_j37 u (12, 0) (nI t) (nI p) (nI a) (nI b) g Q := fun u hu => by
    unfold p_M_isFor_j37
    refine w_mKindOf hp ?_
    rw [n2, mR25 m, mS25 m, cl_n (by omega), s.i 59, k.ea, ic A b hA hb]
    refine ⟨fun z => j73 0 u ⟨fun _ y => z y.1, fun _ => rfl⟩ hu, fun z => ⟨rfl, rfl, in_n (by omega) (by omega), fun y => j73 0 u ⟨fun _ x => y x.2.1, fun _ => rfl⟩ hu, fun y => ?_⟩⟩
    rw [mR26 m, mS26 m, s.i 60, k.eb, ic B a hB ha]
    exact ⟨rfl, in_n (by omega) (by omega), fun x => j73 0 u ⟨fun _ q => x q.2.2, fun _ => rfl⟩ hu, fun x => j73 1 u ⟨fun q => absurd q (by decide), fun q => absurd ⟨z, y, x⟩ q⟩ hu⟩
  unfold p_M_isFor
  rw [mR25 m, mS25 m, mR26 m, mS26 m, mR27 m, mS27 m, cl_n (by omega), s.i 59, s.i 60, s.i 61, k.ea, k.eb, k.ec, ic A a hA ha, ic B b hB hb, ic C c hC hc]
  exact ⟨rfl, rfl, in_n (by omega) (by omega), fun z => j37 0 ⟨fun _ y => z y.1, fun _ => rfl⟩, fun z => ⟨rfl, in_n (by omega) (by omega), fun z2 => j37 0 ⟨fun _ y => z2 y.2.1, fun _ => rfl⟩, fun z2 => ⟨rfl, in_n (by omega) (by omega), fun z3 => j37 0 ⟨fun _ y => z3 y.2.2, fun _ => rfl⟩, fun z3 => j37 1 ⟨fun y => absurd y (by decide), fun y => absurd ⟨z, z2, z3⟩ y⟩⟩⟩⟩
end Lines
