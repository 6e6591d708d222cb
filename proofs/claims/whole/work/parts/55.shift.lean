section Shift
variable {L : Nat} {xs : Nat → Int32} {nr nt : Nat} {v h g : xH}
theorem SC.sa (s : SC v h) (n : xN) (f : Nat → Int32) : SC (sA v n f) (sA h n f) := ⟨fun n' j' h1 h2 => by
  rw [hI_sA, hI_sA]
  split
  · rfl
  · exact s.1 n' j' h1 h2, s.2.1, s.2.2⟩
theorem SM.sa (s : SM v h) (n : xN) (f : Nat → Int32) : SM (sA v n f) (sA h n f) := ⟨fun n' j' h1 => by
  rw [hI_sA, hI_sA]
  split
  · rfl
  · exact s.1 n' j' h1, s.2.1, s.2.2⟩
theorem SC.oma (s : SC v h) {n : xN} (hn : 34 ≤ n.1 ∨ n.1 = 12) (f : Nat → Int32) : SC (sA v n f) h := ⟨fun n' j' h1 h2 => by
  rw [hI_sA, if_neg (fun z => by rw [z] at h1 h2; omega)]
  exact s.1 n' j' h1 h2, s.2.1, s.2.2⟩
theorem SM.oca (s : SM v h) {n : xN} (hn : n.1 < 34 ∧ n.1 ≠ 12) (f : Nat → Int32) : SM (sA v n f) h := ⟨fun n' j' h1 => by
  rw [hI_sA, if_neg (fun z => by rw [z] at h1; omega)]
  exact s.1 n' j' h1, s.2.1, s.2.2⟩
def scd (I : xN → Nat → Int32) (s t : Nat) (y z x : Int32) : Nat := if lkP I s y = 0 then ppc I t z x else lkP I s y
theorem scd_lt (I : xN → Nat → Int32) (s t : Nat) (y z x : Int32) : scd I s t y z x < 7 := by
  unfold scd
  split
  · exact ppc_lt _ _ _ _
  · exact lkP_lt _ _ _
theorem scd_kk {w' : xH} (K : Sm (KK [23, 95] [((11, 0), 14), ((12, 0), 62)]) v w') (s t : Nat) (y z x : Int32) : scd (hI w') s t y z x = scd (hI v) s t y z x := by
  have e : ∀ k q, 34 ≤ k → k ≠ 95 → hI w' (k, 0) q = hI v (k, 0) q := fun k q h1 h2 => K.1 _ _ (by simp [KK]; omega)
  unfold scd ppc lkP pcd
  simp only [e 92 _ (by omega) (by omega), e 94 _ (by omega) (by omega), e 93 _ (by omega) (by omega), e 58 _ (by omega) (by omega)]
theorem w_sstep (i : Inv L xs nr nt v) (c0 : SC v h) {s t : Nat} (hs : s < 4) (ht : t < 4) {y z l5 : Int32} {b : Nat} {K : xH → Prop} {Q : Int32 → xH → Prop} {f : Nat} (hl : ¬ l5 ≤ nI b) (hm : ∀ q, q < 10 → hI v (32, 0) q = -1 ∨ ∃ t, t < nt ∧ hI v (32, 0) q = nI t)
    (bad : scd (hI v) s t (y + nI b) (z + nI b) (hI v (32, 0) (y + nI b).toNatClampNeg) ≠ 0 → Q (cd (scd (hI v) s t (y + nI b) (z + nI b) (hI v (32, 0) (y + nI b).toNatClampNeg))) (hp h (scd (hI v) s t (y + nI b) (z + nI b) (hI v (32, 0) (y + nI b).toNatClampNeg))))
    (good : scd (hI v) s t (y + nI b) (z + nI b) (hI v (32, 0) (y + nI b).toNatClampNeg) = 0 → p_T_shift_L92 (11, 0) (nI s) y (nI t) z l5 K Q f (nI (b + 1)) (pvC h t (z + nI b).toNatClampNeg (hI v (32, 0) (y + nI b).toNatClampNeg))) : p_T_shift_L92 (11, 0) (nI s) y (nI t) z l5 K Q (f + 1) (nI b) h := by
  unfold p_T_shift_L92
  refine ⟨fun c => absurd c hl, fun _ => ⟨rfl, w_refusePlace i c0 hs ?_⟩⟩
  by_cases k0 : lkP (hI v) s (y + nI b) = 0
  · rw [k0]
    obtain ⟨n, f', j, n1, f1, hj, ey, v1, v2, v3, v4, v5, v6⟩ := lkP_0 i hs k0
    have ep : scd (hI v) s t (y + nI b) (z + nI b) (hI v (32, 0) (y + nI b).toNatClampNeg) = ppc (hI v) t (z + nI b) (hI v (32, 0) j) := by unfold scd; rw [if_pos k0, ey, cl_n (by omega)]
    rw [ep] at bad good
    rw [ey] at good ⊢
    rw [cl_n (by omega)] at good
    refine ⟨fun z => absurd rfl z, fun _ => ?_⟩
    show _ ∧ _
    rw [show hp h 0 = h from rfl, c0.2.1, c0.2.2, xR_11_0_8 i.x, xS_32_0 i.x, cl_n (by omega), c0.i 32 0 j]
    have hx : hI v (32, 0) j = -1 ∨ hI v (32, 0) j = -2 ∨ ∃ t, t < nt ∧ hI v (32, 0) j = nI t := (hm j (by omega)).imp id Or.inr
    refine ⟨rfl, in_n (by omega) (by omega), w_putIn i c0 ht hx (fun c => ?_) (fun c q hq e => ?_)⟩
    · unfold p_T_shift_j136
      exact ⟨fun z => absurd ((cd_0 (ppc_lt _ _ _ _)).mp z) c, fun _ => bad c⟩
    · unfold p_T_shift_j136
      refine ⟨fun _ => ⟨rfl, fun h2 q2 w1 hw1 => ?_⟩, fun z => absurd rfl z⟩
      have g' := good c
      rw [e, cl_n (by omega)] at g'
      have e2 : h2 = pvC h t q (hI v (32, 0) j) := by rw [q2, hI_sI, if_neg (by simp)]; rfl
      rw [hw1, nI_1, e2]
      exact g'
  · have ep : scd (hI v) s t (y + nI b) (z + nI b) (hI v (32, 0) (y + nI b).toNatClampNeg) = lkP (hI v) s (y + nI b) := by unfold scd; rw [if_neg k0]
    rw [ep] at bad
    refine ⟨fun _ => ?_, fun z => absurd ((cd_0 (lkP_lt _ _ _)).mp z) k0⟩
    unfold p_T_shift_j136
    exact ⟨fun z => absurd ((cd_0 (lkP_lt _ _ _)).mp z) k0, fun _ => bad k0⟩
theorem w_msstep (i : Inv L xs nr nt v) (sm : SM v g) {s t : Nat} (hs : s < 4) (ht : t < 4) (h1 : hI v (92, 0) s = 1) (h2 : hI v (92, 0) t = 1) {y z l5 : Int32} {b : Nat} {K : xH → Prop} {Q : Int32 → xH → Prop} {f : Nat} (hl : ¬ l5 ≤ nI b) (hm : ∀ q, q < 10 → hI v (97, 0) q = -1 ∨ ∃ t, t < nt ∧ hI v (97, 0) q = nI t)
    (bad : scd (hI v) s t (y + nI b) (z + nI b) (hI v (97, 0) (y + nI b).toNatClampNeg) ≠ 0 → p_M_meets (12, 0) (nI (scd (hI v) s t (y + nI b) (z + nI b) (hI v (97, 0) (y + nI b).toNatClampNeg))) g Q)
    (good : scd (hI v) s t (y + nI b) (z + nI b) (hI v (97, 0) (y + nI b).toNatClampNeg) = 0 → p_M_shift_L98 (12, 0) (nI s) y (nI t) z l5 (fun h => p_M_shift_j144 (12, 0) h Q) K Q f (nI (b + 1)) (pvM g t (z + nI b).toNatClampNeg (hI v (97, 0) (y + nI b).toNatClampNeg))) : p_M_shift_L98 (12, 0) (nI s) y (nI t) z l5 (fun h => p_M_shift_j144 (12, 0) h Q) K Q (f + 1) (nI b) g := by
  have e0 : (0 : Int32).toInt = 0 := rfl
  have m := SM.m i sm
  have lk : ∀ s, s < 4 → hI v (92, 0) s = 1 → ∀ y, ∃ n, n ≤ 10 ∧ hI v (94, 0) s = nI n ∧ lkP (hI v) s y = if 0 ≤ y.toInt ∧ y.toInt < n then 0 else 2 := fun s hs h1 y => by
    rcases i.vx s hs with ⟨v1, v2⟩ | ⟨v1, n, f, n1, f1, v2, v3, -⟩
    · rw [v1] at h1; exact absurd h1 (by decide)
    · exact ⟨n, n1, v3, by unfold lkP; rw [if_neg (by rw [v1]; decide), v3, ti_n (by omega)]⟩
  have b2 : scd (hI v) s t (y + nI b) (z + nI b) (hI v (97, 0) (y + nI b).toNatClampNeg) = 2 → p_M_shift_j144 (12, 0) g Q := fun c => by
    rw [c] at bad
    exact ⟨rfl, bad (by decide)⟩
  obtain ⟨n, hn, en, ln⟩ := lk s hs h1 (y + nI b)
  obtain ⟨n', hn', en', ln'⟩ := lk t ht h2 (z + nI b)
  unfold p_M_shift_L98
  rw [mR60 m, mS60 m, cl_n (by omega), sm.i 94, en]
  refine ⟨fun c => absurd c hl, fun _ => ⟨rfl, rfl, in_n (by omega) (by omega), w_in (fun c => ⟨fun _ => ?_, fun z => absurd rfl z⟩) (fun c => ⟨fun z => absurd z (by decide), fun _ => ?_⟩)⟩⟩
  · rw [sub1 (by omega), e0] at c
    have l2 : lkP (hI v) s (y + nI b) = 2 := by rw [ln, if_neg (by omega)]
    exact b2 (by unfold scd; rw [l2, if_neg (by decide)])
  · rw [sub1 (by omega), e0] at c
    have k0 : lkP (hI v) s (y + nI b) = 0 := by rw [ln, if_pos (by omega)]
    obtain ⟨n2, f2, j, n1, f1, hj, ey, v1, v2, v3, v4, v5, v6⟩ := lkP_0 i hs k0
    have ep : scd (hI v) s t (y + nI b) (z + nI b) (hI v (97, 0) (y + nI b).toNatClampNeg) = ppc (hI v) t (z + nI b) (hI v (97, 0) j) := by unfold scd; rw [if_pos k0, ey, cl_n (by omega)]
    rw [ep] at bad good b2
    rw [ey] at good ⊢
    rw [cl_n (by omega)] at good
    rw [mR60 m, mS60 m, cl_n (by omega), sm.i 94, en']
    refine ⟨rfl, in_n (by omega) (by omega), w_in (fun c => ⟨fun z => absurd rfl z, fun _ => ?_⟩) (fun c => ⟨fun _ => ?_, fun z => absurd z (by decide)⟩)⟩
    · rw [sub1 (by omega), e0] at c
      have l2 : lkP (hI v) t (z + nI b) = 2 := by rw [ln', if_neg (by omega)]
      exact b2 (by unfold ppc; rw [l2, if_neg (by decide)])
    · rw [sub1 (by omega), e0] at c
      have k1 : lkP (hI v) t (z + nI b) = 0 := by rw [ln', if_pos (by omega)]
      have ep2 : ppc (hI v) t (z + nI b) (hI v (97, 0) j) = pcd (hI v) t (hI v (97, 0) j) := by unfold ppc; rw [if_pos k1]
      obtain ⟨n3, f3, j', n1', f1', hj', ey', w1, w2, w3, w4, w5, w6⟩ := lkP_0 i ht k1
      rw [ep2] at bad good
      rw [ey', cl_n (by omega)] at good
      rw [mR63 m, mS63 m, cl_n (by omega), sm.i 97]
      refine ⟨rfl, in_n (by omega) (by omega), w_mTakes i sm ht f1' w5 (hm j (by omega)) (fun p0 => ⟨fun _ => ?_, fun z => absurd z (by decide)⟩) (fun p4 => ⟨fun z => absurd rfl z, fun _ => ?_⟩)⟩
      · rw [mR63 m, mS63 m, mR61 m, mS61 m, ia3, ey', ix10, cl_n (by omega), sm.i 97]
        refine ⟨rfl, in_n (by omega) (by omega), rfl, in_n (by omega) (by omega), fun h2 q2 h3 q3 w' hw' => ?_⟩
        rw [hw', nI_1]
        have e3 : h3 = pvM g t j' (hI v (97, 0) j) := by rw [q3, q2, hI_sI, if_neg (by simp)]; rfl
        rw [e3]
        exact good p0
      · rw [p4] at bad
        exact bad (by decide)
/-- promise 38 -/
theorem o_shift (H : Ok L xs h) (x y x2 z n : Int32) {F : Int32 → xH → Prop} (hF : Nx L xs (p_M_shift (12, 0) x y x2 z n) F) : p_T_shift (11, 0) x y x2 z n h F := by
  obtain ⟨nr, nt, i⟩ := H
  have e0 : (0 : Int32).toInt = 0 := rfl
  have e12 : (10 : Int32).toInt = 10 := rfl
  unfold p_T_shift
  refine w_isSatchel (fun c => ⟨fun _ => hF _ _ i.vs (fun G hG => ?_), fun z => absurd rfl z⟩) (fun s hs e => ⟨fun z => absurd z (by decide), fun _ => ?_⟩)
  · unfold p_M_shift
    exact w_mSatchel (fun _ => ⟨fun _ => hG h ⟨nr, nt, i⟩, fun z => absurd rfl z⟩) (fun w hw e => absurd e (c w hw))
  subst e
  refine w_isSatchel (fun c => ⟨fun z => absurd rfl z, fun _ => hF _ _ i.vs (fun G hG => ?_)⟩) (fun t ht e => ⟨fun _ => ?_, fun z => absurd z (by decide)⟩)
  · unfold p_M_shift
    exact w_mSatchel (fun c => absurd rfl (c s hs)) (fun _ _ _ => ⟨fun z => absurd z (by decide), fun _ => w_mSatchel (fun _ => ⟨fun z => absurd rfl z, fun _ => hG h ⟨nr, nt, i⟩⟩) (fun w hw e => absurd e (c w hw))⟩)
  subst e
  have no : ¬ (0 ≤ n.toInt ∧ n.toInt ≤ 10) → F (-3) h := fun c => hF _ _ i.vs (fun G hG => by
    unfold p_M_shift
    exact w_mSatchel (fun c => absurd rfl (c s hs)) (fun _ _ _ => ⟨fun z => absurd z (by decide), fun _ => w_mSatchel (fun c => absurd rfl (c t ht)) (fun _ _ _ => ⟨fun _ => w_in (fun _ => ⟨fun z => absurd rfl z, fun _ => hG h ⟨nr, nt, i⟩⟩) (fun c2 => absurd c2 c), fun z => absurd z (by decide)⟩)⟩))
  refine ⟨fun c => no (by rw [ti_lt, e0] at c; omega), fun c => ⟨fun c2 => ⟨rfl, fun h10 q10 => ?_⟩, fun c2 => no (by rw [ti_le, e12] at c2; omega)⟩⟩
  have hnn : 0 ≤ n.toInt ∧ n.toInt ≤ 10 := by
    rw [ti_lt, e0] at c; rw [ti_le, e12] at c2; omega
  obtain ⟨N, hN, rfl⟩ : ∃ N, N ≤ 10 ∧ n = nI N := ⟨n.toInt.toNat, by omega, by rw [ti_eq, ti_n (by omega)]; omega⟩
  have iz := z0_inv i
  have scz : SC (z0 h) h10 := by rw [q10]; exact ((SC.rf h).si _ _ _).om (Or.inr (by simp)) _ _
  have sCz : Sm KC h h10 := by rw [q10]; exact (Sm.rf _ h).si _ (by simp [KC])
  have mHead : ∀ (G : Int32 → xH → Prop) (h' : xH), (∀ h11, h11 = sI h' (12, 0) 62 0 → (kd (hR h11 (12, 0) 58).1 = (3, 0)) ∧ (vp_in (nI s) (hS h11 (hR h11 (12, 0) 58) - 1)) ∧ (((hI h11 (hR h11 (12, 0) 58) (nI s).toNatClampNeg) = 0 → p_M_shift_j54 (12, 0) h11 G) ∧ (¬ (hI h11 (hR h11 (12, 0) 58) (nI s).toNatClampNeg) = 0 → (vp_in (nI t) (hS h11 (hR h11 (12, 0) 58) - 1)) ∧ ((¬ (hI h11 (hR h11 (12, 0) 58) (nI t).toNatClampNeg) = 0 → (∃ f67, p_M_shift_L63 (12, 0) (nI s) y (nI t) z (nI N) (fun (h31 : xH) => (∃ f66, p_M_shift_L98 (12, 0) (nI s) y (nI t) z (nI N) (fun (h61 : xH) => p_M_shift_j144 (12, 0) h61 G) (fun (h65 : xH) => G (nI N) h65) G f66 (0 : Int32) h31)) G f67 (0 : Int32) h11)) ∧ ((hI h11 (hR h11 (12, 0) 58) (nI t).toNatClampNeg) = 0 → p_M_shift_j54 (12, 0) h11 G)))) ) → p_M_shift (12, 0) (nI s) y (nI t) z (nI N) h' G := by
    intro G h' q
    unfold p_M_shift
    exact w_mSatchel (fun c => absurd rfl (c s hs)) (fun _ _ _ => ⟨fun z => absurd z (by decide), fun _ => w_mSatchel (fun c => absurd rfl (c t ht)) (fun _ _ _ => ⟨fun _ => w_in (fun c => absurd hnn c) (fun _ => ⟨fun _ => ⟨rfl, fun h11 q11 => q h11 q11⟩, fun z => absurd z (by decide)⟩), fun z => absurd z (by decide)⟩)⟩)
  have gone : (hI h (92, 0) s = 0 ∨ hI h (92, 0) t = 0) → p_T_shift_j63 (11, 0) h10 F := by
    intro cg
    refine ⟨rfl, w_found (SC.x iz scz) (k := 1) (by omega) ?_⟩
    have sC1 : Sm KC h (fd h10 1) := sCz.tr (fd_sm _ _)
    refine hF _ _ (i.vs.fr sC1 (fun n j k => k.2.2)) (fun G hG => mHead G _ (fun h11 q11 => ?_))
    have sm11 : SM (z0 h) h11 := by rw [q11]; exact ((SM.kc sC1).oc ⟨by simp, by simp⟩ _ _).si _ _ _
    have sc11 : SC (fd (z0 h) 1) h11 := by rw [q11]; exact (fd_sc scz 1).wm (Or.inr (by simp)) _ _
    have m := SM.m iz sm11
    have j54 : p_M_shift_j54 (12, 0) h11 G := ⟨rfl, w_meets m (k := 1) (by omega) (hG _ ⟨nr, nt, by rw [fm_eq sm11 sc11]; exact iz.find (by omega)⟩)⟩
    have e92 : ∀ q, hI h11 (92, 0) q = hI h (92, 0) q := fun q => by rw [sm11.i 92]; unfold z0; simp [hI_sI]
    rw [mR58 m, mS58 m, cl_n (by omega), cl_n (by omega), e92, e92]
    exact ⟨rfl, in_n (by omega) (by omega), fun _ => j54, fun c1 => ⟨in_n (by omega) (by omega), fun c2 => (cg.elim c1 c2).elim, fun _ => j54⟩⟩
  obtain ⟨r1, r2, r3, r4, r5⟩ := satR iz hs
  obtain ⟨-, -, r3', r4', r5'⟩ := satR iz ht
  have e72 : ∀ s, hI h10 (7, s) 2 = hI h (7, s) 2 := fun s => by rw [q10, hI_sI, if_neg (by simp)]
  rw [scz.2.1, scz.2.2, r1, r2, cl_n (by omega), cl_n (by omega), r3, r3', r4, r5, xR_11_0_8 iz.x, xS_32_0 iz.x, e72, e72]
  refine ⟨rfl, in_n (by omega) (by omega), rfl, fun c3 => gone ?_, fun c3 => ⟨in_n (by omega) (by omega), rfl, fun c4 => ⟨in_n (by omega) (by omega), rfl, rfl, by decide, by decide, fun h27 q27 => ?_⟩, fun c4 => gone ?_⟩⟩
  · rcases i.vx s hs with ⟨v1, v2⟩ | ⟨v1, n, f, n1, f1, v2, -⟩
    · exact Or.inl v1
    · rw [v2] at c3; exact absurd c3 (n_neg (by omega))
  rotate_left
  · rcases i.vx t ht with ⟨v1, v2⟩ | ⟨v1, n, f, n1, f1, v2, -⟩
    · exact Or.inr v1
    · rw [v2] at c4; exact absurd c4 (n_neg (by omega))
  have p92 : hI h (92, 0) s = 1 := by
    rcases i.vx s hs with ⟨v1, v2⟩ | ⟨v1, -⟩
    · exact absurd v2 c3
    · exact v1
  have p92' : hI h (92, 0) t = 1 := by
    rcases i.vx t ht with ⟨v1, v2⟩ | ⟨v1, -⟩
    · exact absurd v2 c4
    · exact v1
  have p6 : ∀ k, k < 10 → hI h (23, s) k = hI h (95, 0) (10 * s + k) ∧ (hI h (95, 0) (10 * s + k) = -1 ∨ ∃ t, t < nt ∧ hI h (95, 0) (10 * s + k) = nI t) := by
    rcases i.vx s hs with ⟨v1, v2⟩ | ⟨v1, n, f, n1, f1, v2, v3, v4, v5, v6⟩
    · exact absurd v2 c3
    · exact v6
  have s27 : h27 = sA h10 (32, 0) (va_cpy (hI h (23, s)) (hI h (32, 0)) 0 0 10) := by
    rw [q27, q10]; rfl
  generalize hv : sA (sA (z0 h) (32, 0) (va_cpy (hI h (23, s)) (hI h (32, 0)) 0 0 10)) (97, 0) (fun k => if k < 10 then hI h (95, 0) (10 * s + k) else hI h (97, 0) k) = v0
  have sc0 : SC v0 h27 := by rw [← hv, s27]; exact (scz.sa _ _).oma (Or.inl (by simp)) _
  have sC0 : Sm KC h h27 := by
    refine sCz.tr ⟨fun n j hk => ?_, by rw [s27]; rfl, by rw [s27]; rfl⟩
    rw [s27, hI_sA, if_neg (fun z => hk (by rw [z]; simp [KC]))]
  have K0 : Sm (fun n j => n = (32, 0) ∨ (n = (97, 0) ∧ j < 10)) (z0 h) v0 := by
    refine ⟨fun n j hk => ?_, by rw [← hv]; rfl, by rw [← hv]; rfl⟩
    rw [← hv, hI_sA]
    by_cases c9 : n = (97, 0)
    · rw [if_pos c9, if_neg (fun z => hk (Or.inr ⟨c9, z⟩)), c9]
      unfold z0
      rw [hI_sI, if_neg (by simp), hI_sI, if_neg (by simp)]
    · rw [if_neg c9, hI_sA, if_neg (fun z => hk (Or.inl z))]
  have i0 : Inv L xs nr nt v0 := iz.updD [32, 97] [] (K0.mono (fun n j e => Or.inl (by rcases e with e | e <;> simp [e])))
  have o32 : ∀ q, q < 10 → hI v0 (32, 0) q = hI h (95, 0) (10 * s + q) := fun q hq => by
    rw [← (p6 q hq).1, ← hv, hI_sA, if_neg (by simp), hI_sA, if_pos rfl]
    unfold va_cpy
    rw [if_pos (by omega)]
    congr 1
    omega
  have o97 : ∀ q, q < 10 → hI v0 (97, 0) q = hI h (95, 0) (10 * s + q) := fun q hq => by
    rw [← hv, hI_sA, if_pos rfl, if_pos hq]
  have o92 : ∀ q, hI v0 (92, 0) q = hI h (92, 0) q := fun q => by rw [K0.1 _ _ (by simp)]; unfold z0; simp [hI_sI]
  clear hv s27 q27
  generalize hzk : (fun k => z + nI k) = zk
  have ezk : ∀ k, z + nI k = zk k := fun k => by rw [← hzk]
  generalize hxk : (fun k => hI h (95, 0) (10 * s + (y + nI k).toNatClampNeg)) = xk
  have exk : ∀ k, hI h (95, 0) (10 * s + (y + nI k).toNatClampNeg) = xk k := fun k => by rw [← hxk]
  generalize hck : (fun k => scd (hI v0) s t (y + nI k) (z + nI k) (xk k)) = ck
  have eck : ∀ k, scd (hI v0) s t (y + nI k) (z + nI k) (xk k) = ck k := fun k => by rw [← hck]
  have c7 : ∀ k, ck k < 7 := fun k => by rw [← eck]; exact scd_lt _ _ _ _ _ _
  have yk : ∀ k, lkP (hI v0) s (y + nI k) = 0 → ∃ j, j < 10 ∧ y + nI k = nI j := fun k z => by
    obtain ⟨n, f', j, n1, f1, hj, ey, -⟩ := lkP_0 i0 hs z
    exact ⟨j, by omega, ey⟩
  have scw : ∀ k (w : Int32), (lkP (hI v0) s (y + nI k) = 0 → w = xk k) → scd (hI v0) s t (y + nI k) (z + nI k) w = ck k := fun k w hw => by
    rw [← eck]
    unfold scd
    by_cases c : lkP (hI v0) s (y + nI k) = 0
    · rw [hw c]
    · rw [if_neg c, if_neg c]
  have x32 : ∀ k, lkP (hI v0) s (y + nI k) = 0 → hI v0 (32, 0) (y + nI k).toNatClampNeg = xk k := fun k z => by
    obtain ⟨j, hj, ej⟩ := yk k z
    rw [← exk, ej, cl_n (by omega), o32 j hj]
  have x97 : ∀ k, lkP (hI v0) s (y + nI k) = 0 → hI v0 (97, 0) (y + nI k).toNatClampNeg = xk k := fun k z => by
    obtain ⟨j, hj, ej⟩ := yk k z
    rw [← exk, ej, cl_n (by omega), o97 j hj]
  have ck0 : ∀ k, ck k = 0 → lkP (hI v0) s (y + nI k) = 0 ∧ (∃ j, j < 10 ∧ zk k = nI j) ∧ (xk k = -1 ∨ ∃ t, t < nt ∧ xk k = nI t) := fun k e => by
    rw [← eck] at e
    unfold scd at e
    by_cases c : lkP (hI v0) s (y + nI k) = 0
    · rw [if_pos c] at e
      unfold ppc at e
      by_cases c2 : lkP (hI v0) t (z + nI k) = 0
      · obtain ⟨n, f', j, n1, f1, hj, ey, -⟩ := lkP_0 i0 ht c2
        obtain ⟨j2, hj2, ej2⟩ := yk k c
        refine ⟨c, ⟨j, by omega, by rw [← ezk]; exact ey⟩, ?_⟩
        rw [← exk, ej2, cl_n (by omega)]
        exact (p6 j2 hj2).2
      · rw [if_neg c2] at e; exact absurd e c2
    · rw [if_neg c] at e; exact absurd e c
  have all : ∀ A, (∀ k, k < A → ck k = 0) → Inv L xs nr nt (gv t zk xk v0 A) ∧ Sm (KK [23, 95] [((11, 0), 14), ((12, 0), 62)]) v0 (gv t zk xk v0 A) := fun A hA =>
    gv_all (n := A) i0 ht (fun k hk => (ck0 k (hA k hk)).2.1) (fun k hk => (ck0 k (hA k hk)).2.2) A (Nat.le_refl _)
  have fin : ∀ A c, A ≤ N → (∀ k, k < A → ck k = 0) → (A = N ∧ c = 0 ∨ A < N ∧ c = ck A ∧ c ≠ 0) → ∀ h', SC (hp (gv t zk xk v0 A) c) h' → Sm KC h h' → F (if c = 0 then nI N else cd c) h' := by
    intro A c hA hck hc h' sc sC
    refine hF _ _ (i.vs.fr sC (fun n j k => k.2.2)) (fun G hG => mHead G _ (fun h11 q11 => ?_))
    have smh : SM h h' := SM.kc sC
    have m11 : ShM (hS h11) (hR h11) := by rw [q11, hS_sI, hR_sI]; exact SM.m i smh
    have e92 : ∀ q, hI h11 (92, 0) q = hI h (92, 0) q := fun q => by rw [q11, hI_sI, if_neg (by simp), smh.i 92]
    rw [mR58 m11, mS58 m11, cl_n (by omega), cl_n (by omega), e92, e92]
    refine ⟨rfl, in_n (by omega) (by omega), fun z => absurd (p92.symm.trans z) (by decide), fun _ => ⟨in_n (by omega) (by omega), fun _ => ⟨11, ?_⟩, fun z => absurd (p92'.symm.trans z) (by decide)⟩⟩
    have key3 : ∀ (m a : Nat) (g' : xH), a + m = 10 → Sm (fun n j => n = (97, 0) ∧ j < 10) h11 g' → (∀ k, k < a → hI g' (97, 0) k = hI h (95, 0) (10 * s + k)) → p_M_shift_L63 (12, 0) (nI s) y (nI t) z (nI N) (fun (h31 : xH) => (∃ f66, p_M_shift_L98 (12, 0) (nI s) y (nI t) z (nI N) (fun (h61 : xH) => p_M_shift_j144 (12, 0) h61 G) (fun (h65 : xH) => G (nI N) h65) G f66 (0 : Int32) h31)) G (m + 1) (nI a) g' := by
      intro m
      induction m with
      | zero =>
        intro a g' ha s5 f5
        unfold p_M_shift_L63
        refine ⟨fun _ => ⟨A + 1, ?_⟩, fun c => absurd (show nI 10 ≤ nI a by rw [le_nn (by omega) (by omega)]; omega) c⟩
        have sm0 : SM v0 g' := by
          refine ⟨fun n j hn => ?_, by rw [s5.2.1, q11]; exact smh.2.1.trans K0.2.1.symm, by rw [s5.2.2, q11]; exact smh.2.2.trans K0.2.2.symm⟩
          by_cases c9 : n = (97, 0)
          · subst c9
            by_cases cj : j < 10
            · rw [f5 j (by omega), o97 j cj]
            · rw [s5.1 _ _ (by simp [cj]), q11, hI_sI, if_neg (by simp), smh.i 97, K0.1 _ _ (by simp [cj])]
              unfold z0
              rw [hI_sI, if_neg (by simp), hI_sI, if_neg (by simp)]
          · rw [s5.1 _ _ (by simp [c9]), q11, hI_sI, K0.1 n j (fun z => by
              rcases z with z | z
              · rw [z] at hn; simp at hn
              · exact c9 z.1)]
            unfold z0
            rw [hI_sI]
            by_cases c6 : n = (12, 0) ∧ j = 62
            · rw [if_pos c6, if_pos c6]
            · rw [if_neg c6, if_neg c6, hI_sI, if_neg (fun z => by rw [z.1] at hn; simp at hn), smh.1 n j hn]
        have sc11 : SC (hp (gv t zk xk v0 A) c) g' := by
          refine ⟨fun n j h1 h2 => ?_, by rw [s5.2.1, q11]; exact sc.2.1, by rw [s5.2.2, q11]; exact sc.2.2⟩
          rw [s5.1 _ _ (fun z => by rw [z.1] at h1; simp at h1), q11, hI_sI, if_neg (fun z => by rw [z.1] at h2; simp at h2)]
          exact sc.1 n j h1 h2
        have key2 : ∀ (m b : Nat) (g' : xH), b + m = A → SM (gv t zk xk v0 b) g' → SC (hp (gv t zk xk v0 A) c) g' → p_M_shift_L98 (12, 0) (nI s) y (nI t) z (nI N) (fun h => p_M_shift_j144 (12, 0) h G) (fun h => G (nI N) h) G (m + 1) (nI b) g' := by
          intro m
          induction m with
          | zero =>
            intro b g' hb sm sc
            have eb : b = A := by omega
            subst eb
            obtain ⟨iv, K⟩ := all b hck
            have k97 : ∀ q, hI (gv t zk xk v0 b) (97, 0) q = hI v0 (97, 0) q := fun q => K.1 _ _ (by simp [KK])
            have k92 : ∀ q, hI (gv t zk xk v0 b) (92, 0) q = hI h (92, 0) q := fun q => by rw [K.1 _ _ (by simp [KK])]; exact o92 q
            rcases hc with ⟨e1, e2⟩ | ⟨e1, e2, e3⟩
            · subst e1; subst e2
              unfold p_M_shift_L98
              refine ⟨fun _ => ?_, fun c => absurd (by rw [le_nn (by omega) (by omega)]; omega) c⟩
              have := hG g' ⟨nr, nt, by rw [SC.eq sc sm]; exact iv⟩
              rw [if_pos rfl] at this
              exact this
            · refine w_msstep iv sm hs ht (by rw [k92]; exact p92) (by rw [k92]; exact p92') (by rw [le_nn (by omega) (by omega)]; omega) (fun q hq => by rw [k97, o97 q hq]; exact (p6 q hq).2) (fun _ => ?_) (fun z => ?_)
              · rw [scd_kk K, k97, scw b _ (x97 b), ← e2]
                rw [hp_ne e3] at sc
                refine w_meets (SM.m iv sm) (by rw [e2]; exact c7 b) ?_
                have := hG (fm g' c) ⟨nr, nt, by rw [fm_eq sm sc]; exact iv.find (by rw [e2]; exact c7 b)⟩
                rw [if_neg e3, cd_ne e3] at this
                exact this
              · rw [scd_kk K, k97, scw b _ (x97 b), ← e2] at z; exact absurd z e3
          | succ m ih =>
            intro b g' hb sm sc
            obtain ⟨iv, K⟩ := all b (fun k hk => hck k (by omega))
            have k97 : ∀ q, hI (gv t zk xk v0 b) (97, 0) q = hI v0 (97, 0) q := fun q => K.1 _ _ (by simp [KK])
            have k92 : ∀ q, hI (gv t zk xk v0 b) (92, 0) q = hI h (92, 0) q := fun q => by rw [K.1 _ _ (by simp [KK])]; exact o92 q
            refine w_msstep iv sm hs ht (by rw [k92]; exact p92) (by rw [k92]; exact p92') (by rw [le_nn (by omega) (by omega)]; omega) (fun q hq => by rw [k97, o97 q hq]; exact (p6 q hq).2) (fun z => ?_) (fun z => ?_)
            · rw [scd_kk K, k97, scw b _ (x97 b)] at z; exact absurd (hck b (by omega)) z
            · rw [k97, x97 b (ck0 b (hck b (by omega))).1, ezk]
              exact ih (b + 1) _ (by omega) (pv_sm sm _ _ _) (pvM_sc sc _ _ _)
        exact key2 A 0 g' (by omega) sm0 sc11
      | succ m ih =>
        intro a g' ha s5 f5
        unfold p_M_shift_L63
        have m' : ShM (hS g') (hR g') := by rw [s5.2.1, s5.2.2]; exact m11
        rw [mR61 m', mS61 m', mR63 m', mS63 m', ix10, cl_n (by omega), cl_n (by omega)]
        refine ⟨fun c => ?_, fun _ => ⟨rfl, rfl, in_n (by omega) (by omega), rfl, in_n (by omega) (by omega), fun h5 e5 v hv => ?_⟩⟩
        · have c' : nI 10 ≤ nI a := c
          rw [le_nn (by omega) (by omega)] at c'; omega
        · rw [hv, nI_1]
          refine ih (a + 1) h5 (by omega) (by rw [e5]; exact s5.si _ ⟨rfl, by omega⟩) (fun k hk => ?_)
          rw [e5, hI_sI]
          by_cases ek : k = a
          · subst ek
            rw [if_pos ⟨rfl, rfl⟩, s5.1 _ _ (by simp), q11, hI_sI, if_neg (by simp), smh.i 95]
          · rw [if_neg (by simp [ek])]; exact f5 k (by omega)
    exact key3 10 0 h11 (by omega) (Sm.rf _ h11) (fun k hk => by omega)
  refine ⟨N + 1, ?_⟩
  have key : ∀ (m a : Nat) (h' : xH), a + m = N → (∀ k, k < a → ck k = 0) → SC (gv t zk xk v0 a) h' → Sm KC h h' → p_T_shift_L92 (11, 0) (nI s) y (nI t) z (nI N) (fun h => F (nI N) h) F (m + 1) (nI a) h' := by
    intro m
    induction m with
    | zero =>
      intro a h' ha hck sc sC
      unfold p_T_shift_L92
      refine ⟨fun _ => ?_, fun c => absurd (by rw [le_nn (by omega) (by omega)]; omega) c⟩
      exact fin a 0 (by omega) hck (Or.inl ⟨by omega, rfl⟩) h' sc sC
    | succ m ih =>
      intro a h' ha hck sc sC
      obtain ⟨iv, K⟩ := all a hck
      have k32 : ∀ q, hI (gv t zk xk v0 a) (32, 0) q = hI v0 (32, 0) q := fun q => K.1 _ _ (by simp [KK])
      refine w_sstep iv sc hs ht (by rw [le_nn (by omega) (by omega)]; omega) (fun q hq => by rw [k32, o32 q hq]; exact (p6 q hq).2) (fun z => ?_) (fun z => ?_)
      · rw [scd_kk K, k32, scw a _ (x32 a)] at z ⊢
        have := fin a (ck a) (by omega) hck (Or.inr ⟨by omega, rfl, z⟩) (hp h' (ck a)) (hp_sc sc _) (sC.tr (hp_sm h' _))
        rw [if_neg z] at this
        exact this
      · rw [scd_kk K, k32, scw a _ (x32 a)] at z
        rw [k32, x32 a (ck0 a z).1, ezk]
        exact ih (a + 1) _ (by omega) (fun k hk => if e : k = a then by rw [e]; exact z else hck k (by omega)) (pv_sc sc _ _ _) (sC.tr (pvC_kc _ _ _ _))
  exact key N 0 h27 (by omega) (fun k hk => by omega) sc0 sC0
end Shift
