section Figure
variable {g g0 : xH} {p : Nat} {I : xN → Nat → Int32} {W : Nat → Bool}
def KF : xN → Nat → Prop := fun n j => (n = (12, 0) ∧ 41 ≤ j ∧ j ≤ 46) ∨ n = (74, 0)
theorem psm_cn (S : Nat → Bool) : ∀ M, psm (fun l => if S l = true then (1 : Int32) else 0) M = nI (cn S M)
  | 0 => rfl
  | M + 1 => by
    unfold psm cn
    rw [psm_cn S M]
    cases S M with
    | false => simp
    | true => simp only [if_true]; exact nI_1 _
theorem psm_mul (f : Nat → Int32) (un : Int32) : ∀ M, psm (fun l => f l * un) M = psm f M * un
  | 0 => by unfold psm; rw [Int32.zero_mul]
  | M + 1 => by
    unfold psm
    rw [psm_mul f un M, Int32.add_mul]
theorem zdiv {n : Nat} (h0 : 0 < n) (hn : n < 2 ^ 31) : (0 : Int32) / nI n = 0 := by
  have := pk_div (a := 0) (d := n) (by omega) h0 hn
  rw [Nat.zero_div] at this; exact this
/-- the groups of one pool, wherever others lie -/
def GR0 (g : xH) (I : xN → Nat → Int32) (p a F G : Nat) (gl : Nat → Nat) : Prop := F ≤ G ∧ En (fun i => gl (F + i)) (G - F) (lls p) (fun l => 0 < lvl I a p l) ∧ ∀ x, F ≤ x → x < G → ∃ A B C, trp (kf p) A B C ∧ lin (kf p) A B C = gl x ∧ hI g (70, 0) x = nI A ∧ hI g (71, 0) x = nI B ∧ hI g (72, 0) x = nI C ∧ hI g (73, 0) x = nI (lvl I a p (gl x))
theorem GRr.to0 {a F G : Nat} {gl : Nat → Nat} (r : GRr g I p a F G gl) : GR0 g I p a F G gl := r.2
theorem w_figure (m : ShM (hS g) (hR g)) {nt rn F G : Nat} {gl at1 at2 : Nat → Nat} {lu un de ci : Int32} (hp : p < 49) (r : GR0 g I p nt F G gl) (hG : G ≤ 200) (hUb : ∀ l, lvl I nt p l ≤ 200000) (e42 : hI g (42, 0) p = un) (e41 : hI g (41, 0) p = de) (e50 : hI g (50, 0) p = ci) (A1 : AtH g (67, 0) at1) (A2 : kf p = 4 → AtH g (68, 0) at2)
    (R : (kf p = 1 ∨ kf p = 2 ∨ kf p = 3) → ∀ g', Sm KF g g' → RunH g' p rn) (hW : ∀ a b c, trp (kf p) a b c → (W (lin (kf p) a b c) = true ↔ (¬ vd (kf p) rn ∧ wnT (kf p) rn at1 at2 a b c)))
    (hlu : psm (fun l => if 0 < lvl I nt p l then nI (lvl I nt p l) else 0) (lls p) = lu) (hE : kf p ≠ 1 → 0 ≤ (zE lu un de ci).toInt) (hA : kf p = 1 → -2147483648 < (zA (lls p) (lvl I nt p) W lu un de ci).toInt) {Q : xH → Prop}
    (q : ∀ g', Sm KF g g' → hI g' (12, 0) 41 = nI (zN (lls p) (lvl I nt p) W) → hI g' (12, 0) 43 = zT lu un de → hI g' (12, 0) 44 = zE lu un de ci → (zN (lls p) (lvl I nt p) W = 0 → hI g' (12, 0) 45 = 0) → (zN (lls p) (lvl I nt p) W ≠ 0 → hI g' (12, 0) 45 = zU (kf p) (lls p) (lvl I nt p) W lu un de ci ∧ hI g' (12, 0) 46 = zC (kf p) (lls p) (lvl I nt p) W lu un de ci ∧ ∀ x, F ≤ x → x < G → hI g' (74, 0) x = if W (gl x) = true then zD (kf p) (lls p) (lvl I nt p) W lu un de ci (gl x) else 0) → Q g') : p_M_figure (12, 0) (nI p) (nI F) (nI G) g Q := by
  obtain ⟨r2, r3, r4⟩ := r
  have hk := kf_le (p := p)
  generalize hU : lvl I nt p = U at *
  have es : ∀ f : Nat → Int32, psm (fun i => f (gl (F + i))) (G - F) = psm (fun l => if 0 < U l then f l else 0) (lls p) := fun f => en_sum f _ _ r3
  have t41 : psm (fun i => if W (gl (F + i)) = true then (1 : Int32) else 0) (G - F) = nI (zN (lls p) U W) := by
    rw [es (fun l => if W l = true then (1 : Int32) else 0)]
    unfold zN
    rw [← psm_cn]
    exact psm_congr _ (fun l _ => by
      by_cases c : 0 < U l
      · simp [c]
      · simp [c])
  have t42 : psm (fun i => nI (U (gl (F + i))) * un) (G - F) = lu * un := by
    rw [es (fun l => nI (U l) * un), ← hlu, ← psm_mul]
    exact psm_congr _ (fun l _ => by
      by_cases c : 0 < U l
      · simp [c]
      · simp [c])
  have tbk : psm (fun i => if W (gl (F + i)) = true then nI (U (gl (F + i))) * un else 0) (G - F) = zB (lls p) U W * un := by
    rw [es (fun l => if W l = true then nI (U l) * un else 0)]
    unfold zB
    rw [← psm_mul]
    exact psm_congr _ (fun l _ => by
      by_cases c : 0 < U l
      · by_cases d : W l = true
        · simp [c, d]
        · simp [c, d]
      · simp [c])
  have hN : zN (lls p) U W ≤ lls p := cn_le _ _
  have l2 := lls_le (p := p)
  unfold p_M_figure
  refine ⟨rfl, fun h2 q2 h4 q4 => ⟨G - F + 1, ?_⟩⟩
  have S4 : Sm KF g h4 := by rw [q4, q2]; exact ((Sm.rf _ g).si _ (by simp [KF])).si _ (by simp [KF])
  have i41 : hI h4 (12, 0) 41 = 0 := by rw [q4, q2]; simp [hI_sI]
  have i42 : hI h4 (12, 0) 42 = 0 := by rw [q4, q2]; simp [hI_sI]
  clear q4 q2
  -- the second part
  have fin : ∀ g1, Sm KF g g1 → hI g1 (12, 0) 41 = nI (zN (lls p) U W) → hI g1 (12, 0) 42 = lu * un → (∀ x, F ≤ x → x < G → hI g1 (74, 0) x = if W (gl x) = true then 1 else 0) → (kd (hR g1 (12, 0) 7).1 = (2, 0)) ∧ (vp_in (nI p) (hS g1 (hR g1 (12, 0) 7) - 1)) ∧ ∀ h55 : xH, h55 = sI g1 (12, 0) 43 (((((hI g1 (12, 0) 42).toInt64) * ((hI g1 (hR g1 (12, 0) 7) (nI p).toNatClampNeg).toInt64)) / (1000 : Int64)).toInt32) → (kd (hR h55 (12, 0) 16).1 = (2, 0)) ∧ (vp_in (nI p) (hS h55 (hR h55 (12, 0) 16) - 1)) ∧ ∀ h59 : xH, h59 = sI h55 (12, 0) 44 (((hI h55 (12, 0) 42) - (hI h55 (12, 0) 43)) + (hI h55 (hR h55 (12, 0) 16) (nI p).toNatClampNeg)) → ∀ h61 : xH, h61 = sI h59 (12, 0) 45 (0 : Int32) → ∀ h63 : xH, h63 = sI h61 (12, 0) 46 (0 : Int32) → ((¬ (hI h63 (12, 0) 41) = 0 → p_M_kindOf (nI p) h63 (fun (v67 : Int32) (h66 : xH) => ((¬ v67 = (1 : Int32) → p_M_figure_j232 (0 : Int32) (12, 0) (nI p) (nI F) (nI G) (zB (lls p) U W * un) h66 Q) ∧ (v67 = (1 : Int32) → p_M_figure_j232 (1 : Int32) (12, 0) (nI p) (nI F) (nI G) (zB (lls p) U W * un) h66 Q)))) ∧ ((hI h63 (12, 0) 41) = 0 → Q h63)) := by
    intro g1 S1 f41 f42 f74
    have m1 : ShM (hS g1) (hR g1) := by rw [S1.2.1, S1.2.2]; exact m
    rw [mR7 m1, mS7 m1, cl_n (by omega), f42, S1.1 (41, 0) p (by simp [KF]), e41]
    refine ⟨rfl, in_n (by omega) (by omega), fun h55 q55 => ?_⟩
    have m55 : ShM (hS h55) (hR h55) := by rw [q55]; exact m1
    have g43 : hI h55 (12, 0) 43 = zT lu un de := by rw [q55, hI_sI, if_pos ⟨rfl, rfl⟩]; rfl
    have g42 : hI h55 (12, 0) 42 = lu * un := by rw [q55, hI_sI, if_neg (by simp)]; exact f42
    have g50 : hI h55 (50, 0) p = ci := by rw [q55, hI_sI, if_neg (by simp), S1.1 (50, 0) p (by simp [KF])]; exact e50
    rw [mR16 m55, mS16 m55, g42, g43, g50]
    refine ⟨rfl, in_n (by omega) (by omega), fun h59 q59 h61 q61 h63 q63 => ?_⟩
    have S63 : Sm KF g h63 := by
      rw [q63, q61, q59, q55]
      exact (((S1.si _ (by simp [KF])).si _ (by simp [KF])).si _ (by simp [KF])).si _ (by simp [KF])
    have k41 : hI h63 (12, 0) 41 = nI (zN (lls p) U W) := by rw [q63, q61, q59, q55]; simp only [hI_sI]; simp [f41]
    have k43 : hI h63 (12, 0) 43 = zT lu un de := by rw [q63, q61, q59]; simp only [hI_sI]; simp [g43]
    have k44 : hI h63 (12, 0) 44 = zE lu un de ci := by rw [q63, q61, q59]; simp [hI_sI]; rfl
    have k45 : hI h63 (12, 0) 45 = 0 := by rw [q63, q61]; simp [hI_sI]
    have k74 : ∀ x, F ≤ x → x < G → hI h63 (74, 0) x = if W (gl x) = true then 1 else 0 := fun x h1 h2 => by
      rw [q63, q61, q59, q55]; simp only [hI_sI]; simp [f74 x h1 h2]
    clear q63 q61 q59 q55
    have n0 : nI (zN (lls p) U W) = (0 : Int32) ↔ zN (lls p) U W = 0 := nI_inj (b := 0) (by omega) (by omega)
    rw [k41, n0]
    refine ⟨fun nz => w_mKindOf hp ?_, fun nz => q h63 S63 k41 k43 k44 (fun _ => k45) (fun y => absurd nz y)⟩
    have n1 : nI (kf p) = (1 : Int32) ↔ kf p = 1 := nI_inj (b := 1) (by omega) (by omega)
    rw [n1]
    -- the last loop
    have loop : ∀ (sh : Int32) (each : Int32) (g2 : xH), (sh = 0 ↔ kf p ≠ 1) → each = zH (kf p) (lls p) U W lu un de ci / nI (zN (lls p) U W) → Sm KF g g2 → hI g2 (12, 0) 41 = nI (zN (lls p) U W) → hI g2 (12, 0) 43 = zT lu un de → hI g2 (12, 0) 44 = zE lu un de ci → hI g2 (12, 0) 45 = 0 → hI g2 (12, 0) 46 = zC (kf p) (lls p) U W lu un de ci → (∀ x, F ≤ x → x < G → hI g2 (74, 0) x = if W (gl x) = true then 1 else 0) → ∃ f107, p_M_figure_L292 (12, 0) (nI p) (nI G) sh each (fun (h106 : xH) => Q h106) Q f107 (nI F) g2 := by
      intro sh each g2 hsh he S2 x41 x43 x44 x45 x46 x74
      refine ⟨G - F + 1, ?_⟩
      have eD : ∀ l, zD (kf p) (lls p) U W lu un de ci l = (if kf p = 1 then un else 0) + (((each / nI (U l)) / (10 : Int32)) * (10 : Int32)) := fun l => by unfold zD; rw [he]
      have key : ∀ (mm x : Nat) (g3 : xH), x + mm = G → F ≤ x → Sm (fun n j => (n = (12, 0) ∧ j = 45) ∨ n = (74, 0)) g2 g3 → hI g3 (12, 0) 45 = psm (fun i => if W (gl (F + i)) = true then nI (U (gl (F + i))) * zD (kf p) (lls p) U W lu un de ci (gl (F + i)) else 0) (x - F) → (∀ y, F ≤ y → y < x → hI g3 (74, 0) y = if W (gl y) = true then zD (kf p) (lls p) U W lu un de ci (gl y) else 0) → (∀ y, x ≤ y → hI g3 (74, 0) y = hI g2 (74, 0) y) → p_M_figure_L292 (12, 0) (nI p) (nI G) sh each (fun (h106 : xH) => Q h106) Q (mm + 1) (nI x) g3 := by
        intro mm
        induction mm with
        | zero =>
          intro x g3 hx hF S3 y45 y74 y74b
          unfold p_M_figure_L292
          refine ⟨fun _ => ?_, fun c => absurd (by rw [le_nn (by omega) (by omega)]; omega) c⟩
          refine q g3 (S2.tr (S3.mono (fun n j z => z.elim (fun z => Or.inl ⟨z.1, by omega, by omega⟩) (fun z => Or.inr z)))) (by rw [S3.1 _ _ (by simp)]; exact x41) (by rw [S3.1 _ _ (by simp)]; exact x43) (by rw [S3.1 _ _ (by simp)]; exact x44) (fun z => absurd z nz) (fun _ => ⟨?_, by rw [S3.1 _ _ (by simp)]; exact x46, fun y h1 h2 => y74 y h1 (by omega)⟩)
          rw [y45, show x - F = G - F by omega, es (fun l => if W l = true then nI (U l) * zD (kf p) (lls p) U W lu un de ci l else 0)]
          unfold zU
          exact psm_congr _ (fun l _ => by
            by_cases c : 0 < U l
            · by_cases d : W l = true
              · simp [c, d]
              · simp [c, d]
            · simp [c])
        | succ mm ih =>
          intro x g3 hx hF S3 y45 y74 y74b
          obtain ⟨A, B, C, z1, z2, z3, z4, z5, z6⟩ := r4 x hF (by omega)
          have Ux : 0 < U (gl x) := by
            have : 0 < U (gl (F + (x - F))) := (r3.1 (x - F) (by omega)).2
            rw [show F + (x - F) = x by omega] at this; exact this
          have Ub := hUb (gl x)
          have m3 : ShM (hS g3) (hR g3) := by rw [S3.2.1, S3.2.2, S2.2.1, S2.2.2]; exact m
          have fx := y74b x (Nat.le_refl _)
          rw [x74 x hF (by omega)] at fx
          have p73 : hI g3 (73, 0) x = nI (U (gl x)) := by rw [S3.1 _ _ (by simp), S2.1 _ _ (by simp [KF])]; exact z6
          have p42 : hI g3 (42, 0) p = un := by rw [S3.1 _ _ (by simp), S2.1 _ _ (by simp [KF])]; exact e42
          have ssp : psm (fun i => if W (gl (F + i)) = true then nI (U (gl (F + i))) * zD (kf p) (lls p) U W lu un de ci (gl (F + i)) else 0) (x + 1 - F) = psm (fun i => if W (gl (F + i)) = true then nI (U (gl (F + i))) * zD (kf p) (lls p) U W lu un de ci (gl (F + i)) else 0) (x - F) + (if W (gl x) = true then nI (U (gl x)) * zD (kf p) (lls p) U W lu un de ci (gl x) else 0) := by
            rw [show x + 1 - F = (x - F) + 1 by omega]
            show _ + (if W (gl (F + (x - F))) = true then _ else _) = _
            rw [show F + (x - F) = x by omega]
          unfold p_M_figure_L292
          rw [mR40 m3, mS40 m3, mR8 m3, mS8 m3, cl_n (by omega), cl_n (by omega), fx, p42]
          refine ⟨fun c => ?_, fun _ => ⟨rfl, rfl, in_n (by omega) (by omega), fun z w hw => ?_, fun z => ?_⟩⟩
          · rw [le_nn (by omega) (by omega)] at c; omega
          · have nw : ¬ W (gl x) = true := fun y => z (by rw [if_pos y])
            rw [hw, nI_1]
            refine ih (x + 1) g3 (by omega) (by omega) S3 (by rw [ssp, if_neg nw, Int32.add_zero]; exact y45) (fun y h1 h2 => ?_) (fun y h1 => y74b y (by omega))
            by_cases e : y = x
            · rw [e, fx, if_neg nw, if_neg nw]
            · exact y74 y h1 (by omega)
          · have yw : W (gl x) = true := Classical.not_not.mp (fun y => by rw [if_neg y] at z; exact absurd z (by decide))
            have j330 : ∀ s0 : Int32, s0 = (if kf p = 1 then un else 0) → p_M_figure_j330 s0 (nI x) (74, 0) (12, 0) (nI p) (nI G) sh each (nI x) (p_M_figure_L292 (12, 0) (nI p) (nI G) sh each (fun (h106 : xH) => Q h106) Q (mm + 1)) g3 Q := by
              intro s0 hs0
              unfold p_M_figure_j330
              rw [mR39 m3, mS39 m3, mS40 m3, cl_n (by omega), p73]
              refine ⟨rfl, rfl, in_n (by omega) (by omega), fun y => ?_, rfl, in_n (by omega) (by omega), fun h94 q94 => ?_⟩
              · have y' : nI (U (gl x)) = nI 0 := y
                rw [nI_inj (by omega) (by omega)] at y'; omega
              have m94 : ShM (hS h94) (hR h94) := by rw [q94]; exact m3
              have d74 : hI h94 (74, 0) x = zD (kf p) (lls p) U W lu un de ci (gl x) := by rw [q94, hI_sI, if_pos ⟨rfl, rfl⟩, eD, hs0]
              have d73 : hI h94 (73, 0) x = nI (U (gl x)) := by rw [q94, hI_sI, if_neg (by simp)]; exact p73
              have d45 : hI h94 (12, 0) 45 = hI g3 (12, 0) 45 := by rw [q94, hI_sI, if_neg (by simp)]
              rw [mR40 m94, mS40 m94, mR39 m94, mS39 m94, d74, d73, d45, y45]
              refine ⟨rfl, in_n (by omega) (by omega), rfl, in_n (by omega) (by omega), fun h100 q100 w hw => ?_⟩
              rw [hw, nI_1]
              refine ih (x + 1) h100 (by omega) (by omega) (by rw [q100, q94]; exact (S3.si _ (Or.inr rfl)).si _ (Or.inl ⟨rfl, rfl⟩)) ?_ (fun y h1 h2 => ?_) (fun y h1 => ?_)
              · rw [ssp, if_pos yw, q100, hI_sI, if_pos ⟨rfl, rfl⟩, Int32.mul_comm]
              · rw [q100, hI_sI, if_neg (by simp)]
                by_cases e : y = x
                · rw [e, d74, if_pos yw]
                · rw [q94, hI_sI, if_neg (fun q => e q.2)]; exact y74 y h1 (by omega)
              · rw [q100, hI_sI, if_neg (by simp), q94, hI_sI, if_neg (fun q => by have := q.2; omega)]
                exact y74b y (by omega)
            exact ⟨fun y => j330 0 (by rw [if_neg (hsh.mp y)]), fun y => ⟨rfl, in_n (by omega) (by omega), j330 un (by rw [if_pos (Classical.not_not.mp (fun q => y (hsh.mpr q)))])⟩⟩
      exact key (G - F) F g2 (by omega) (Nat.le_refl _) (Sm.rf _ g2) (by rw [Nat.sub_self]; exact x45) (fun y h1 h2 => by omega) (fun y h1 => rfl)
    have e0 : (0 : Int32).toInt = 0 := rfl
    have j268 : ∀ (sh gain co : Int32), (sh = 0 ↔ kf p ≠ 1) → co = zC (kf p) (lls p) U W lu un de ci → (0 ≤ gain → gain / nI (zN (lls p) U W) = zH (kf p) (lls p) U W lu un de ci / nI (zN (lls p) U W)) → (¬ 0 ≤ gain → zH (kf p) (lls p) U W lu un de ci = 0) → p_M_figure_j268 co (12, 0) (12, 0) (nI p) (nI F) (nI G) sh gain h63 Q := by
      intro sh gain co hsh hco hg1 hg2
      unfold p_M_figure_j268
      refine ⟨rfl, fun h73 q73 => ?_⟩
      have S73 : Sm KF g h73 := by rw [q73]; exact S63.si _ (by simp [KF])
      have o73 : ∀ n j, ¬ (n = (12, 0) ∧ j = 46) → hI h73 n j = hI h63 n j := fun n j hn => by rw [q73, hI_sI, if_neg hn]
      have x46 : hI h73 (12, 0) 46 = zC (kf p) (lls p) U W lu un de ci := by rw [q73, hI_sI, if_pos ⟨rfl, rfl⟩, hco]
      have lp := fun each he => loop sh each h73 hsh he S73 (by rw [o73 _ _ (by simp)]; exact k41) (by rw [o73 _ _ (by simp)]; exact k43) (by rw [o73 _ _ (by simp)]; exact k44) (by rw [o73 _ _ (by simp)]; exact k45) x46 (fun x h1 h2 => by rw [o73 _ _ (by simp)]; exact k74 x h1 h2)
      rw [o73 (12, 0) 41 (by simp), k41, n0]
      refine ⟨fun c => ⟨rfl, nz, fun w hw => lp w (by rw [hw]; exact hg1 c)⟩, fun c => lp 0 (by rw [hg2 c, zdiv (by omega) (by omega)])⟩
    have mA : kf p = 1 → ∀ gain, gain = zA (lls p) U W lu un de ci → p_M_figure_j253 gain (12, 0) (nI p) (nI F) (nI G) 1 h63 Q := fun k1 gain eg => by
      have hA' := hA k1
      have eC : zC (kf p) (lls p) U W lu un de ci = mx0 (-gain) := by unfold zC; rw [if_pos k1, eg]
      have eH : zH (kf p) (lls p) U W lu un de ci = mx0 gain := by unfold zH; rw [if_pos k1, eg]
      rw [← eg] at hA'
      have ng : (-gain).toInt = -(gain.toInt) := by
        rw [Int32.toInt_neg]
        have := Int32.toInt_lt gain
        have := Int32.le_toInt gain
        rw [Int.bmod_def]
        omega
      unfold p_M_figure_j253
      refine ⟨fun c => j268 1 gain 0 ⟨fun y => absurd y (by decide), fun y => absurd k1 y⟩ ?_ (fun _ => ?_) (fun y => absurd c y), fun c => j268 1 gain (-gain) ⟨fun y => absurd y (by decide), fun y => absurd k1 y⟩ ?_ (fun y => absurd y c) (fun _ => ?_)⟩
      · rw [eC]; unfold mx0
        rw [ti_le, e0] at c
        rw [if_neg (by rw [ti_lt, e0, ng]; omega)]
      · rw [eH]; unfold mx0
        by_cases z : 0 < gain
        · rw [if_pos z]
        · rw [if_neg z]
          have : gain = 0 := by
            rw [ti_le, e0] at c
            rw [ti_lt, e0] at z
            rw [ti_eq, e0]; omega
          rw [this]
      · rw [eC]; unfold mx0
        rw [ti_le, e0] at c
        rw [if_pos (by rw [ti_lt, e0, ng]; omega)]
      · rw [eH]; unfold mx0
        rw [ti_le, e0] at c
        rw [if_neg (by rw [ti_lt, e0]; omega)]
    unfold p_M_figure_j232
    rw [k44]
    refine ⟨fun k1 => ⟨fun _ => ⟨rfl, ?_⟩, fun z => absurd rfl z⟩, fun k1 => ⟨fun z => absurd z (by decide), fun _ => ⟨rfl, mA k1 _ rfl⟩⟩⟩
    have hE' := hE k1
    have eC : zC (kf p) (lls p) U W lu un de ci = 0 := by unfold zC; rw [if_neg k1]
    have eH : zH (kf p) (lls p) U W lu un de ci = zE lu un de ci := by unfold zH; rw [if_neg k1]
    unfold p_M_figure_j253
    refine ⟨fun c => j268 0 _ 0 ⟨fun _ => k1, fun _ => rfl⟩ eC.symm (fun _ => by rw [eH]) (fun y => absurd c y), fun c => ?_⟩
    rw [ti_le, e0] at c; omega
  -- the first loop
  have key : ∀ (K : Int32 → xH → Prop), (∀ g1, Sm KF g g1 → hI g1 (12, 0) 41 = nI (zN (lls p) U W) → hI g1 (12, 0) 42 = lu * un → (∀ x, F ≤ x → x < G → hI g1 (74, 0) x = if W (gl x) = true then 1 else 0) → K (zB (lls p) U W * un) g1) → ∀ (mm x : Nat) (g1 : xH), x + mm = G → F ≤ x → Sm KF g g1 → hI g1 (12, 0) 41 = psm (fun i => if W (gl (F + i)) = true then (1 : Int32) else 0) (x - F) → hI g1 (12, 0) 42 = psm (fun i => nI (U (gl (F + i))) * un) (x - F) → (∀ y, F ≤ y → y < x → hI g1 (74, 0) y = if W (gl y) = true then 1 else 0) → p_M_figure_L16 (12, 0) (nI p) (nI F) (nI G) K Q (mm + 1) (psm (fun i => if W (gl (F + i)) = true then nI (U (gl (F + i))) * un else 0) (x - F)) (nI x) g1 := by
    intro K hK
    intro mm
    induction mm with
    | zero =>
      intro x g1 hx hF S1 f41 f42 f74
      unfold p_M_figure_L16
      refine ⟨fun _ => ?_, fun c => absurd (by rw [le_nn (by omega) (by omega)]; omega) c⟩
      rw [show x - F = G - F by omega] at f41 f42 ⊢
      rw [t41] at f41; rw [t42] at f42; rw [tbk]
      exact hK g1 S1 f41 f42 (fun y h1 h2 => f74 y h1 (by omega))
    | succ mm ih =>
      intro x g1 hx hF S1 f41 f42 f74
      obtain ⟨A, B, C, z1, z2, z3, z4, z5, z6⟩ := r4 x hF (by omega)
      have m1 : ShM (hS g1) (hR g1) := by rw [S1.2.1, S1.2.2]; exact m
      have p73 : hI g1 (73, 0) x = nI (U (gl x)) := by rw [S1.1 _ _ (by simp [KF])]; exact z6
      have p42 : hI g1 (42, 0) p = un := by rw [S1.1 _ _ (by simp [KF])]; exact e42
      have sp : ∀ f : Nat → Int32, psm (fun i => f (gl (F + i))) (x + 1 - F) = psm (fun i => f (gl (F + i))) (x - F) + f (gl x) := fun f => by
        rw [show x + 1 - F = (x - F) + 1 by omega]
        show _ + f (gl (F + (x - F))) = _
        rw [show F + (x - F) = x by omega]
      unfold p_M_figure_L16
      rw [mR39 m1, mS39 m1, mR8 m1, mS8 m1, cl_n (by omega), cl_n (by omega), p73, p42, f42]
      refine ⟨fun c => ?_, fun _ => ⟨rfl, rfl, in_n (by omega) (by omega), rfl, in_n (by omega) (by omega), fun h12 q12 => ?_⟩⟩
      · rw [le_nn (by omega) (by omega)] at c; omega
      have S12 : Sm KF g h12 := by rw [q12]; exact S1.si _ (by simp [KF])
      have m12 : ShM (hS h12) (hR h12) := by rw [q12]; exact m1
      have o12 : ∀ n j, ¬ (n = (12, 0) ∧ j = 42) → hI h12 n j = hI g1 n j := fun n j hn => by rw [q12, hI_sI, if_neg hn]
      have w42 : hI h12 (12, 0) 42 = psm (fun i => nI (U (gl (F + i))) * un) (x + 1 - F) := by rw [q12, hI_sI, if_pos ⟨rfl, rfl⟩, sp (fun l => nI (U l) * un)]
      have w41 : hI h12 (12, 0) 41 = psm (fun i => if W (gl (F + i)) = true then (1 : Int32) else 0) (x - F) := by rw [o12 _ _ (by simp)]; exact f41
      have AA1 : AtH h12 (67, 0) at1 := ⟨A1.1, by rw [S12.2.1]; exact A1.2.1, fun k hk => by rw [S12.1 _ _ (by simp [KF])]; exact A1.2.2 k hk⟩
      have AA2 : kf p = 4 → AtH h12 (68, 0) at2 := fun k4 => ⟨(A2 k4).1, by rw [S12.2.1]; exact (A2 k4).2.1, fun k hk => by rw [S12.1 _ _ (by simp [KF])]; exact (A2 k4).2.2 k hk⟩
      have hWx := hW A B C z1
      rw [z2] at hWx
      have j87 : ∀ s0 : Int32, (s0 = 0 ∧ ¬ W (gl x) = true ∨ s0 = 1 ∧ W (gl x) = true) → ∀ B16 : Int32 → Int32 → xH → Prop, (∀ h', Sm KF g h' → hI h' (12, 0) 41 = psm (fun i => if W (gl (F + i)) = true then (1 : Int32) else 0) (x + 1 - F) → hI h' (12, 0) 42 = psm (fun i => nI (U (gl (F + i))) * un) (x + 1 - F) → (∀ y, F ≤ y → y < x + 1 → hI h' (74, 0) y = if W (gl y) = true then 1 else 0) → B16 (psm (fun i => if W (gl (F + i)) = true then nI (U (gl (F + i))) * un else 0) (x + 1 - F)) (nI (x + 1)) h') → p_M_figure_j87 s0 (12, 0) (nI p) (nI F) (nI G) (psm (fun i => if W (gl (F + i)) = true then nI (U (gl (F + i))) * un else 0) (x - F)) (nI x) B16 h12 Q := by
        intro s0 hs B16 hB
        have j105 : p_M_figure_j105 s0 (nI x) (74, 0) (12, 0) (nI p) (nI F) (nI G) (psm (fun i => if W (gl (F + i)) = true then nI (U (gl (F + i))) * un else 0) (x - F)) (nI x) s0 B16 h12 Q := by
          unfold p_M_figure_j105 p_M_figure_j121
          rw [mS40 m12, cl_n (by omega)]
          refine ⟨rfl, in_n (by omega) (by omega), fun h21 q21 => ⟨rfl, ?_⟩⟩
          have m21 : ShM (hS h21) (hR h21) := by rw [q21]; exact m12
          have v41 : hI h21 (12, 0) 41 = psm (fun i => if W (gl (F + i)) = true then (1 : Int32) else 0) (x - F) := by rw [q21, hI_sI, if_neg (by simp)]; exact w41
          rw [v41]
          have go : ∀ h26, h26 = sI h21 (12, 0) 41 (psm (fun i => if W (gl (F + i)) = true then (1 : Int32) else 0) (x - F) + (if W (gl x) = true then 1 else 0)) → B16 (psm (fun i => if W (gl (F + i)) = true then nI (U (gl (F + i))) * un else 0) (x + 1 - F)) (nI (x + 1)) h26 := fun h26 q26 => by
            refine hB h26 ?_ ?_ ?_ (fun y h1 h2 => ?_)
            · rw [q26, q21]; exact (S12.si _ (Or.inr rfl)).si _ (by simp [KF])
            · rw [q26, hI_sI, if_pos ⟨rfl, rfl⟩, sp (fun l => if W l = true then (1 : Int32) else 0)]
            · rw [q26, hI_sI, if_neg (by simp), q21, hI_sI, if_neg (by simp)]; exact w42
            · rw [q26, hI_sI, if_neg (by simp), q21, hI_sI]
              by_cases e : y = x
              · rw [if_pos ⟨rfl, e⟩, e]
                rcases hs with ⟨e1, e2⟩ | ⟨e1, e2⟩
                · rw [e1, if_neg e2]
                · rw [e1, if_pos e2]
              · rw [if_neg (fun q => e q.2), o12 _ _ (by simp)]; exact f74 y h1 (by omega)
          rcases hs with ⟨e1, e2⟩ | ⟨e1, e2⟩
          · refine ⟨fun _ => ⟨rfl, fun h26 q26 => ⟨fun _ w hw y hy => ?_, fun z => absurd e1 z⟩⟩, fun z => absurd e1 z⟩
            rw [hw, hy, nI_1]
            have := go h26 (by rw [if_neg e2]; exact q26)
            rw [sp (fun l => if W l = true then nI (U l) * un else 0), if_neg e2] at this
            exact this
          · refine ⟨fun z => absurd (e1.symm.trans z) (by decide), fun _ => ⟨rfl, fun h26 q26 => ⟨fun z => absurd (e1.symm.trans z) (by decide), fun _ => ?_⟩⟩⟩
            have m26 : ShM (hS h26) (hR h26) := by rw [q26]; exact m21
            have v73 : hI h26 (73, 0) x = nI (U (gl x)) := by rw [q26, hI_sI, if_neg (by simp), q21, hI_sI, if_neg (by simp), o12 _ _ (by simp)]; exact p73
            have v42 : hI h26 (42, 0) p = un := by rw [q26, hI_sI, if_neg (by simp), q21, hI_sI, if_neg (by simp), o12 _ _ (by simp)]; exact p42
            rw [mR39 m26, mS39 m26, mR8 m26, mS8 m26, cl_n (by omega), v73, v42]
            refine ⟨rfl, rfl, in_n (by omega) (by omega), rfl, in_n (by omega) (by omega), fun w hw y hy => ?_⟩
            rw [hw, hy, nI_1]
            have := go h26 (by rw [if_pos e2]; exact q26)
            rw [sp (fun l => if W l = true then nI (U l) * un else 0), if_pos e2] at this
            exact this
        unfold p_M_figure_j87
        rw [mR40 m12]
        rcases hs with ⟨e1, e2⟩ | ⟨e1, e2⟩
        · refine ⟨rfl, fun _ => ?_, fun z => absurd e1 z⟩
          rw [← e1]; rw [← e1] at j105; exact j105
        · refine ⟨rfl, fun z => absurd (e1.symm.trans z) (by decide), fun _ => ?_⟩
          rw [e1] at j105 ⊢; exact j105
      have nxt : ∀ h', Sm KF g h' → hI h' (12, 0) 41 = psm (fun i => if W (gl (F + i)) = true then (1 : Int32) else 0) (x + 1 - F) → hI h' (12, 0) 42 = psm (fun i => nI (U (gl (F + i))) * un) (x + 1 - F) → (∀ y, F ≤ y → y < x + 1 → hI h' (74, 0) y = if W (gl y) = true then 1 else 0) → _ := fun h' a1 a2 a3 a4 => ih (x + 1) h' (by omega) (by omega) a1 a2 a3 a4
      refine w_mVoid hp (fun k => R k h12 S12) (fun nv => ⟨fun z => absurd rfl z, fun _ => ?_⟩) (fun v => ⟨fun _ => j87 0 (Or.inl ⟨rfl, fun y => (hWx.mp y).1 v⟩) _ nxt, fun z => absurd z (by decide)⟩)
      have a70 : hI h12 (70, 0) x = nI A := by rw [S12.1 _ _ (by simp [KF])]; exact z3
      have a71 : hI h12 (71, 0) x = nI B := by rw [S12.1 _ _ (by simp [KF])]; exact z4
      have a72 : hI h12 (72, 0) x = nI C := by rw [S12.1 _ _ (by simp [KF])]; exact z5
      rw [mR36 m12, mS36 m12, mR37 m12, mS37 m12, mR38 m12, mS38 m12, a70, a71, a72]
      exact ⟨rfl, in_n (by omega) (by omega), rfl, in_n (by omega) (by omega), rfl, in_n (by omega) (by omega), w_wins m12 hp AA1 AA2 (fun k1 => R (Or.inl k1) h12 S12) z1 (fun y => ⟨fun _ => j87 0 (Or.inl ⟨rfl, fun w => y (hWx.mp w).2⟩) _ nxt, fun z => absurd rfl z⟩) (fun y => ⟨fun z => absurd z (by decide), fun _ => j87 1 (Or.inr ⟨rfl, hWx.mpr ⟨nv, y⟩⟩) _ nxt⟩)⟩
  have k0 := fun K hK => key K hK (G - F) F h4 (by omega) (Nat.le_refl _) S4 (by rw [Nat.sub_self]; exact i41) (by rw [Nat.sub_self]; exact i42) (fun y h1 h2 => by omega)
  rw [show psm (fun i => if W (gl (F + i)) = true then nI (U (gl (F + i))) * un else 0) (F - F) = 0 by rw [Nat.sub_self]; rfl] at k0
  exact k0 _ fin
end Figure
