section Gather
variable {L : Nat} {xs : Nat → Int32} {nr nt : Nat} {v h g : xH}
theorem fd_sc (s : SC v h) (k : Nat) : SC (fd v k) (fd h k) := by
  unfold fd
  rw [s.i 33 0 k]
  exact (s.si _ _ _).si _ _ _
theorem hp_sc (s : SC v h) (k : Nat) : SC (hp v k) (hp h k) := by
  unfold hp
  split
  · exact s
  · exact fd_sc s k
theorem fd_smm (s : SM v g) (k : Nat) : SM (fd v k) g := (s.oc ⟨by simp, by simp⟩ _ _).oc ⟨by simp, by simp⟩ _ _
theorem hp_smm (s : SM v g) (k : Nat) : SM (hp v k) g := by
  unfold hp
  split
  · exact s
  · exact fd_smm s k
theorem fm_eq {k : Nat} (sm : SM v g) (sc : SC (fd v k) g) : fm g k = fm (fd v k) k := by
  rw [SC.eq sc (fd_smm sm k)]
/-- one more came: x to place j of satchel s -/
def pv (v : xH) (s j : Nat) (x : Int32) : xH := sI (sI (sI (sI v (23, s) j x) (11, 0) 14 (hI v (11, 0) 14 + 1)) (95, 0) (10 * s + j) x) (12, 0) 62 (hI v (12, 0) 62 + 1)
def pvC (h : xH) (s j : Nat) (x : Int32) : xH := sI (sI h (23, s) j x) (11, 0) 14 (hI h (11, 0) 14 + 1)
def pvM (g : xH) (s j : Nat) (x : Int32) : xH := sI (sI g (95, 0) (10 * s + j) x) (12, 0) 62 (hI g (12, 0) 62 + 1)
theorem pv_sc (c : SC v h) (s j : Nat) (x : Int32) : SC (pv v s j x) (pvC h s j x) := by
  unfold pv pvC
  rw [c.i 11 0 14]
  exact (((c.si _ _ _).si _ _ _).om (Or.inl (by simp)) _ _).om (Or.inr (by simp)) _ _
theorem pv_sm (m : SM v g) (s j : Nat) (x : Int32) : SM (pv v s j x) (pvM g s j x) := by
  unfold pv pvM
  rw [m.i 12 62]
  exact (((m.oc ⟨by simp, by simp⟩ _ _).oc ⟨by simp, by simp⟩ _ _).si _ _ _).si _ _ _
theorem pvM_sc (c : SC v g) (s j : Nat) (x : Int32) : SC v (pvM g s j x) := (c.wm (Or.inl (by simp)) _ _).wm (Or.inr (by simp)) _ _
theorem pvC_kc (h : xH) (s j : Nat) (x : Int32) : Sm KC h (pvC h s j x) := ((Sm.rf _ h).si _ (by simp [KC])).si _ (by simp [KC])
theorem pv_kk (v : xH) (s j : Nat) (x : Int32) : Sm (KK [23, 95] [((11, 0), 14), ((12, 0), 62)]) v (pv v s j x) :=
  ((((Sm.rf _ v).si _ (Or.inl (by simp))).si _ (Or.inr (by simp))).si _ (Or.inl (by simp))).si _ (Or.inr (by simp))
theorem pv_inv (i : Inv L xs nr nt v) {s j : Nat} (hs : s < 4) (hj : j < 10) {x : Int32} (hx : x = -1 ∨ ∃ t, t < nt ∧ x = nI t) : Inv L xs nr nt (pv v s j x) := by
  have K := pv_kk v s j x
  have o95 : ∀ q, hI (pv v s j x) (95, 0) q = if q = 10 * s + j then x else hI v (95, 0) q := fun q => by unfold pv; simp [hI_sI]
  have o23 : ∀ s' q, hI (pv v s j x) (23, s') q = if s' = s ∧ q = j then x else hI v (23, s') q := fun s' q => by unfold pv; simp [hI_sI]
  refine i.updD [23, 95] [((11, 0), 14), ((12, 0), 62)] K (vx := Or.inr fun s' hs' => ?_) (vn := Or.inr ?_)
  · rw [K.1 (92, 0) s' (by simp [KK]), K.1 (93, 0) s' (by simp [KK]), K.1 (94, 0) s' (by simp [KK]), K.1 (7, s') 1 (by simp [KK]), K.1 (7, s') 2 (by simp [KK])]
    rcases i.vx s' hs' with e | ⟨e, n, f, n1, f1, a1, a2, a3, a4, a5⟩
    · exact Or.inl e
    · refine Or.inr ⟨e, n, f, n1, f1, a1, a2, a3, a4, fun k hk => ?_⟩
      rw [o95, o23]
      by_cases c : s' = s ∧ k = j
      · rw [if_pos c, if_pos (by rw [c.1, c.2])]; exact ⟨rfl, hx⟩
      · rw [if_neg c, if_neg (by omega)]; exact a5 k hk
  · have V := i.vn
    refine ⟨?_, ?_, ?_, ?_, fun f hf => ?_⟩
    · rw [K.1 _ _ (by simp [KK]), K.1 _ _ (by simp [KK])]; exact V.1
    · rw [K.1 _ _ (by simp [KK]), K.1 _ _ (by simp [KK])]; exact V.2.1
    · unfold pv; simp [hI_sI, V.2.2.1]
    · rw [K.1 _ _ (by simp [KK]), K.1 _ _ (by simp [KK])]; exact V.2.2.2.1
    · rw [K.1 _ _ (by simp [KK]), K.1 _ _ (by simp [KK])]; exact V.2.2.2.2 f hf
/-- the days of a row of comings -/
def gv (s : Nat) (y x : Nat → Int32) (v : xH) : Nat → xH
  | 0 => v
  | k + 1 => pv (gv s y x v k) s (y k).toNatClampNeg (x k)
theorem gv_all (i : Inv L xs nr nt v) {s : Nat} (hs : s < 4) {y x : Nat → Int32} {n : Nat} (hy : ∀ k, k < n → ∃ j, j < 10 ∧ y k = nI j) (hx : ∀ k, k < n → x k = -1 ∨ ∃ t, t < nt ∧ x k = nI t) : ∀ k, k ≤ n → Inv L xs nr nt (gv s y x v k) ∧ Sm (KK [23, 95] [((11, 0), 14), ((12, 0), 62)]) v (gv s y x v k)
  | 0, _ => ⟨i, Sm.rf _ v⟩
  | k + 1, hk => by
    obtain ⟨a, b⟩ := gv_all i hs hy hx k (by omega)
    obtain ⟨j, hj, e⟩ := hy k (by omega)
    unfold gv
    rw [e, cl_n (by omega)]
    exact ⟨pv_inv a hs hj (hx k (by omega)), b.tr (pv_kk _ _ _ _)⟩
/-- the start of both: nothing came yet -/
def z0 (h : xH) : xH := sI (sI h (11, 0) 14 0) (12, 0) 62 0
theorem z0_inv (i : Inv L xs nr nt h) : Inv L xs nr nt (z0 h) := by
  have K : Sm (KL [((11, 0), 14), ((12, 0), 62)]) h (z0 h) := ((Sm.rf _ h).si _ (by simp [KL])).si _ (by simp [KL])
  refine i.updL K (vn := Or.inr ?_)
  have V := i.vn
  refine ⟨?_, ?_, ?_, ?_, fun f hf => ?_⟩
  · rw [K.1 _ _ (by simp [KL]), K.1 _ _ (by simp [KL])]; exact V.1
  · rw [K.1 _ _ (by simp [KL]), K.1 _ _ (by simp [KL])]; exact V.2.1
  · unfold z0; simp [hI_sI]
  · rw [K.1 _ _ (by simp [KL]), K.1 _ _ (by simp [KL])]; exact V.2.2.2.1
  · rw [K.1 _ _ (by simp [KL]), K.1 _ _ (by simp [KL])]; exact V.2.2.2.2 f hf
theorem SlOK_kk {w : xH} (K : Sm (KK [23, 95] [((11, 0), 14), ((12, 0), 62)]) v w) {s : Nat} : SlOK (hI w) nt s ↔ SlOK (hI v) nt s := by
  have e : ∀ n j, n.1 = 9 ∨ n.1 = 26 ∨ (87 ≤ n.1 ∧ n.1 ≤ 91) → hI w n j = hI v n j := fun n j hn => K.1 n j (fun z => by
    unfold KK at z; simp at z; rcases z with z | z
    · omega
    · rcases z with z | z <;> (rw [z.1] at hn; simp at hn))
  unfold SlOK
  simp only [e (9, s) _ (Or.inl rfl), e (26, s) _ (Or.inr (Or.inl rfl)), e (87, 0) _ (by simp), e (88, 0) _ (by simp), e (89, 0) _ (by simp), e (90, 0) _ (by simp), e (91, 0) _ (by simp)]
/-- what bars the k-th of a gathering -/
def gcd' (I : xN → Nat → Int32) (s w : Nat) (y z : Int32) : Nat := if lkS I w z = 0 then ppc I s y (br I (12 * w + z.toNatClampNeg)) else lkS I w z
theorem gcd_lt (I : xN → Nat → Int32) (s w : Nat) (y z : Int32) : gcd' I s w y z < 7 := by
  unfold gcd'
  split
  · exact ppc_lt _ _ _ _
  · exact lkS_lt _ _ _
theorem gcd_kk {w' : xH} (K : Sm (KK [23, 95] [((11, 0), 14), ((12, 0), 62)]) v w') (s w : Nat) (y z : Int32) : gcd' (hI w') s w y z = gcd' (hI v) s w y z := by
  have e : ∀ k q, 34 ≤ k → k ≠ 95 → hI w' (k, 0) q = hI v (k, 0) q := fun k q h1 h2 => K.1 _ _ (by simp [KK]; omega)
  unfold gcd' lkS ppc lkP pcd br
  simp only [e 85 _ (by omega) (by omega), e 86 _ (by omega) (by omega), e 92 _ (by omega) (by omega), e 94 _ (by omega) (by omega), e 93 _ (by omega) (by omega), e 58 _ (by omega) (by omega), e 87 _ (by omega) (by omega), e 88 _ (by omega) (by omega)]
theorem gcd_0 (i : Inv L xs nr nt v) {s w : Nat} (hs : s < 4) (hw : w < 6) {y z : Int32} (c : gcd' (hI v) s w y z = 0) : lkS (hI v) w z = 0 ∧ lkP (hI v) s y = 0 ∧ pcd (hI v) s (br (hI v) (12 * w + z.toNatClampNeg)) = 0 ∧ (∃ j, j < 10 ∧ y = nI j) ∧ (br (hI v) (12 * w + z.toNatClampNeg) = -1 ∨ ∃ t, t < nt ∧ br (hI v) (12 * w + z.toNatClampNeg) = nI t) := by
  unfold gcd' at c
  by_cases k0 : lkS (hI v) w z = 0
  · rw [if_pos k0] at c
    unfold ppc at c
    by_cases k1 : lkP (hI v) s y = 0
    · rw [if_pos k1] at c
      obtain ⟨n, f, j, n1, f1, hj, rfl, -⟩ := lkP_0 i hs k1
      obtain ⟨n', j', n1', n2', ey, -, -, -, sl⟩ := lkS_0 i hw k0
      refine ⟨k0, k1, c, ⟨j, by omega, rfl⟩, ?_⟩
      rw [ey, cl_n (by omega)] at c ⊢
      rcases br_or sl with b | b | b
      · exact Or.inl b
      · unfold pcd at c; rw [b, if_neg (by decide), if_pos rfl] at c; exact absurd c (by decide)
      · exact Or.inr b
    · rw [if_neg k1] at c; exact absurd c k1
  · rw [if_neg k0] at c; exact absurd c k0
theorem w_gstep (i : Inv L xs nr nt v) (c0 : SC v h) {s w : Nat} (hs : s < 4) (hw : w < 6) {y z l5 : Int32} {b : Nat} {K : xH → Prop} {Q : Int32 → xH → Prop} {f : Nat} (hl : ¬ l5 ≤ nI b)
    (bad : gcd' (hI v) s w (y + nI b) (z + nI b) ≠ 0 → Q (cd (gcd' (hI v) s w (y + nI b) (z + nI b))) (hp h (gcd' (hI v) s w (y + nI b) (z + nI b))))
    (good : gcd' (hI v) s w (y + nI b) (z + nI b) = 0 → p_T_gather_L40 (11, 0) (nI s) y (nI w) z l5 K Q f (nI (b + 1)) (pvC h s (y + nI b).toNatClampNeg (br (hI v) (12 * w + (z + nI b).toNatClampNeg)))) : p_T_gather_L40 (11, 0) (nI s) y (nI w) z l5 K Q (f + 1) (nI b) h := by
  unfold p_T_gather_L40
  refine ⟨fun c => absurd c hl, fun _ => ⟨rfl, w_refuseSlip2 i c0 hw ?_⟩⟩
  by_cases k0 : lkS (hI v) w (z + nI b) = 0
  · rw [k0]
    have ep : gcd' (hI v) s w (y + nI b) (z + nI b) = ppc (hI v) s (y + nI b) (br (hI v) (12 * w + (z + nI b).toNatClampNeg)) := by unfold gcd'; rw [if_pos k0]
    rw [ep] at bad good
    obtain ⟨n, j, n1, n2, ey, -, -, -, sl⟩ := lkS_0 i hw k0
    rw [ey] at bad good ⊢
    rw [cl_n (by omega)] at bad good
    obtain ⟨r1, r2, r3, r4, r5, r6, r7, r8⟩ := slipR (j := j) i hw (by omega)
    refine ⟨fun z => absurd rfl z, fun _ => ?_⟩
    show _ ∧ _
    rw [show hp h 0 = h from rfl, c0.2.1, c0.2.2, r1, r2, cl_n (by omega), cl_n (by omega), r3, r4, r5, r6]
    refine ⟨rfl, in_n (by omega) (by omega), rfl, rfl, in_n (by omega) (by omega), rfl, w_brings c0 sl (w_putIn i c0 hs (br_or sl) (fun c => ?_) (fun c q hq e => ?_))⟩
    · unfold p_T_gather_j93
      exact ⟨fun z => absurd ((cd_0 (ppc_lt _ _ _ _)).mp z) c, fun _ => bad c⟩
    · unfold p_T_gather_j93
      refine ⟨fun _ => ⟨rfl, fun h2 q2 w1 hw1 => ?_⟩, fun z => absurd rfl z⟩
      have g' := good c
      rw [e, cl_n (by omega)] at g'
      have e2 : h2 = pvC h s q (br (hI v) (12 * w + j)) := by rw [q2, hI_sI, if_neg (by simp)]; rfl
      rw [hw1, nI_1, e2]
      exact g'
  · have ep : gcd' (hI v) s w (y + nI b) (z + nI b) = lkS (hI v) w (z + nI b) := by unfold gcd'; rw [if_neg k0]
    rw [ep] at bad
    refine ⟨fun _ => ?_, fun z => absurd ((cd_0 (lkS_lt _ _ _)).mp z) k0⟩
    unfold p_T_gather_j93
    exact ⟨fun z => absurd ((cd_0 (lkS_lt _ _ _)).mp z) k0, fun _ => bad k0⟩
theorem ia3 (a b c : Int32) : a + b + c = a + (b + c) := Int32.add_assoc a b c
theorem w_mgstep (i : Inv L xs nr nt v) (sm : SM v g) {s w : Nat} (hs : s < 4) (hw : w < 6) {y z l5 : Int32} {b : Nat} {K : xH → Prop} {Q : Int32 → xH → Prop} {f : Nat} (hl : ¬ l5 ≤ nI b)
    (bad : gcd' (hI v) s w (y + nI b) (z + nI b) ≠ 0 → p_M_meets (12, 0) (nI (gcd' (hI v) s w (y + nI b) (z + nI b))) g Q)
    (good : gcd' (hI v) s w (y + nI b) (z + nI b) = 0 → p_M_gather_L39 (12, 0) (nI s) y (nI w) z l5 (fun h => p_M_gather_j176 (12, 0) h Q) K Q f (nI (b + 1)) (pvM g s (y + nI b).toNatClampNeg (br (hI v) (12 * w + (z + nI b).toNatClampNeg)))) : p_M_gather_L39 (12, 0) (nI s) y (nI w) z l5 (fun h => p_M_gather_j176 (12, 0) h Q) K Q (f + 1) (nI b) g := by
  have e0 : (0 : Int32).toInt = 0 := rfl
  have m := SM.m i sm
  have eI : ∀ k q, 34 ≤ k → hI g (k, 0) q = hI v (k, 0) q := fun k q hk => sm.1 _ _ (Or.inl hk)
  unfold p_M_gather_L39
  refine ⟨fun c => absurd c hl, fun _ => ⟨rfl, w_lacks m hw (DW_eq eI (dw_of i hw)) ?_⟩⟩
  rw [lkS_eq eI]
  by_cases k0 : lkS (hI v) w (z + nI b) = 0
  · rw [k0]
    have ep : gcd' (hI v) s w (y + nI b) (z + nI b) = ppc (hI v) s (y + nI b) (br (hI v) (12 * w + (z + nI b).toNatClampNeg)) := by unfold gcd'; rw [if_pos k0]
    rw [ep] at bad good
    refine ⟨fun _ => ?_, fun z => absurd (by decide) z⟩
    rw [mR58 m, mS58 m, mR60 m, mS60 m, cl_n (by omega), sm.i 92, sm.i 94]
    obtain ⟨n, j, n1, n2, ey, -, -, -, sl⟩ := lkS_0 i hw k0
    have j105 : ∀ c : Nat, lkP (hI v) s (y + nI b) = c → p_M_gather_j105 (nI c) (12, 0) (nI s) y (nI w) z l5 (nI b) (p_M_gather_L39 (12, 0) (nI s) y (nI w) z l5 (fun h => p_M_gather_j176 (12, 0) h Q) K Q f) (fun h => p_M_gather_j176 (12, 0) h Q) g Q := by
      intro c hc
      have c7 := lkP_lt (hI v) s (y + nI b)
      unfold p_M_gather_j105
      by_cases c0 : c = 0
      · subst c0
        have ep2 : ppc (hI v) s (y + nI b) (br (hI v) (12 * w + (z + nI b).toNatClampNeg)) = pcd (hI v) s (br (hI v) (12 * w + (z + nI b).toNatClampNeg)) := by unfold ppc; rw [if_pos hc]
        rw [ep2] at bad good
        obtain ⟨n', f', j', n1', f1', hj', ey', v1, v2, v3, v4, v5, v6⟩ := lkP_0 i hs hc
        rw [ey, ey', cl_n (by omega), cl_n (by omega)] at good
        rw [ey, cl_n (by omega)] at bad
        refine ⟨fun _ l8 hl8 => ?_, fun z => absurd (by decide) z⟩
        have e8 : l8 = nI (12 * w + j) := by rw [hl8, ia3, ey, ix12]
        have j153 : ∀ x : Int32, x = (if hI v (87, 0) (12 * w + j) = 1 then hI v (88, 0) (12 * w + j) else -1) → p_M_gather_j153 x (12, 0) (nI s) y (nI w) z l5 (nI b) l8 (p_M_gather_L39 (12, 0) (nI s) y (nI w) z l5 (fun h => p_M_gather_j176 (12, 0) h Q) K Q f) (fun h => p_M_gather_j176 (12, 0) h Q) g Q := by
          intro x hx
          unfold p_M_gather_j153
          rw [mR53 m, mS53 m, e8, cl_n (by omega), sm.i 87]
          refine ⟨rfl, rfl, in_n (by omega) (by omega), fun c => ?_, fun c => ?_⟩
          · have b2 : br (hI v) (12 * w + j) = -2 := by
              unfold br
              rw [if_neg (fun z => by rw [z] at c; exact absurd c (by decide)), if_neg (fun z => by rw [z] at c; exact absurd c (by decide))]
            have p4 : pcd (hI v) s (br (hI v) (12 * w + j)) = 4 := by rw [b2]; rfl
            rw [p4] at bad
            exact ⟨rfl, bad (by decide)⟩
          · have bx : br (hI v) (12 * w + j) = x := by
              rw [hx]; unfold br
              rcases sl.2 with q | ⟨q, -⟩ | ⟨q, -⟩ | ⟨q, -⟩
              · rw [q, if_pos rfl, if_neg (by decide)]
              · rw [q, if_neg (by decide), if_pos rfl, if_pos rfl]
              · rw [q] at c; exact absurd (by decide) c
              · rw [q] at c; exact absurd (by decide) c
            rw [bx] at good bad
            have hx2 : x = -1 ∨ ∃ t, t < nt ∧ x = nI t := by
              rcases sl.2 with q | ⟨q, q2, q3⟩ | ⟨q, -⟩ | ⟨q, -⟩
              · rw [hx, if_neg (by rw [q]; decide)]; exact Or.inl rfl
              · rw [hx, if_pos q]; exact Or.inr q3
              · rw [q] at c; exact absurd (by decide) c
              · rw [q] at c; exact absurd (by decide) c
            refine w_mTakes i sm hs f1' v5 hx2 (fun p0 => ⟨fun _ => ?_, fun z => absurd z (by decide)⟩) (fun p4 => ⟨fun z => absurd rfl z, fun _ => ?_⟩)
            · rw [mR61 m, mS61 m, ia3, ey', ix10, cl_n (by omega)]
              refine ⟨rfl, in_n (by omega) (by omega), fun h2 q2 h3 q3 w' hw' => ?_⟩
              rw [hw', nI_1]
              have e3 : h3 = pvM g s j' x := by rw [q3, q2, hI_sI, if_neg (by simp)]; rfl
              rw [e3]
              exact good p0
            · rw [p4] at bad
              exact ⟨rfl, bad (by decide)⟩
        rw [mR53 m, mS53 m, mR54 m, mS54 m, e8, cl_n (by omega), sm.i 87, sm.i 88]
        rw [e8] at j153
        exact ⟨rfl, rfl, in_n (by omega) (by omega), fun c => j153 _ (by rw [if_neg c]), fun c => ⟨rfl, in_n (by omega) (by omega), j153 _ (by rw [if_pos c])⟩⟩
      · have ep2 : ppc (hI v) s (y + nI b) (br (hI v) (12 * w + (z + nI b).toNatClampNeg)) = c := by unfold ppc; rw [if_neg (by omega), hc]
        rw [ep2] at bad
        exact ⟨fun z => absurd ((nI_le0 (by omega)).mp z) c0, fun _ => ⟨rfl, bad c0⟩⟩
    refine ⟨rfl, in_n (by omega) (by omega), fun c => ⟨rfl, in_n (by omega) (by omega), ?_⟩, fun c => j105 1 (by unfold lkP; rw [if_pos c])⟩
    rcases i.vx s hs with ⟨v1, v2⟩ | ⟨v1, n', f', n1', f1', v2, v3, -⟩
    · exact absurd v1 c
    · rw [v3]
      refine w_in (fun c2 => ⟨fun _ => j105 2 ?_, fun z => absurd rfl z⟩) (fun c2 => ⟨fun z => absurd z (by decide), fun _ => j105 0 ?_⟩) <;> rw [sub1 (by omega), e0] at c2
      · unfold lkP; rw [if_neg c, v3, ti_n (by omega), if_neg (by omega)]
      · unfold lkP; rw [if_neg c, v3, ti_n (by omega), if_pos (by omega)]
  · have ep : gcd' (hI v) s w (y + nI b) (z + nI b) = lkS (hI v) w (z + nI b) := by unfold gcd'; rw [if_neg k0]
    rw [ep] at bad
    refine ⟨fun z => absurd ((nI_le0 (lkS_lt _ _ _)).mp z) k0, fun _ => ?_⟩
    unfold p_M_gather_j105
    exact ⟨fun z => absurd ((nI_le0 (lkS_lt _ _ _)).mp z) k0, fun _ => ⟨rfl, bad k0⟩⟩
end Gather
