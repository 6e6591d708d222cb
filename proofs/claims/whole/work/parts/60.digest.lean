section Digest
variable {L : Nat} {xs : Nat → Int32} {nr nt : Nat} {v h g : xH}
def sto (I : xN → Nat → Int32) (r k : Nat) : Int32 := if I (38, 0) (13 * r + k) = 0 then I (39, 0) (13 * r + k) else -1
def dgR (I : xN → Nat → Int32) (r : Nat) (acc : Int64) : Nat → Int64
  | 0 => acc
  | k + 1 => (31 : Int64) * dgR I r acc k + (sto I r (k + 1)).toInt64
def dg1 (I : xN → Nat → Int32) : Nat → Int64
  | 0 => 17
  | r + 1 => (31 : Int64) * dgR I r ((31 : Int64) * dg1 I r + (I (35, 0) r).toInt64) (I (36, 0) r).toNatClampNeg + (I (50, 0) (4 * r + 3)).toInt64
def dgB (I : xN → Nat → Int32) (p : Nat) (acc : Int64) : Nat → Int64
  | 0 => acc
  | q + 1 => (31 : Int64) * dgB I p acc q + (be I p q).toInt64
def dg2 (I : xN → Nat → Int32) (acc : Int64) : Nat → Int64
  | 0 => acc
  | p + 1 => if I (40, 0) p = 1 then dgB I p ((31 : Int64) * dg2 I acc p + (nI p).toInt64) 11 else dg2 I acc p
def dg3 (I : xN → Nat → Int32) (acc : Int64) : Nat → Int64
  | 0 => acc
  | t + 1 => (31 : Int64) * ((31 : Int64) * ((31 : Int64) * ((31 : Int64) * dg3 I acc t + (I (59, 0) t).toInt64) + (I (60, 0) t).toInt64) + (I (62, 0) t).toInt64) + (I (63, 0) t).toInt64
theorem w_standing (i : Inv L xs nr nt h) {j k : Nat} (hj : j < nr) (hk : k < 13) {Q : Int32 → xH → Prop} (q : Q (sto (hI h) j k) h) : p_R_standing (6, j) (nI k) h Q := by
  have vr := (i.vr.1 j hj).2.2.2 k hk
  have sr := i.sr.1 j hj
  unfold p_R_standing
  unfold sto at q
  rw [sr.2.1, sr.2.2.1, sr.2.2.2.2.2.2.2.1, sr.2.2.2.2.2.2.2.2.1, cl_n (by omega), vr.1, vr.2.2.1]
  refine ⟨rfl, rfl, in_n (by omega) (by omega), fun z => ⟨rfl, in_n (by omega) (by omega), ?_⟩, fun z => ?_⟩
  · rw [if_pos z] at q; exact q
  · rw [if_neg z] at q; exact q
theorem w_mraceAt (i : Inv L xs nr nt h) {j k n : Nat} (hj : j < nr) (h1 : 1 ≤ k) (h2 : k ≤ n) (hn : n ≤ 12) (e : hI h (36, 0) j = nI n) {Q : Int32 → xH → Prop} (q : Q (sto (hI h) j k) h) : p_M_raceAt (12, 0) (nI j) (nI (k + 10)) h Q := by
  have hnr := i.vc.1
  have ne : ∀ c : Nat, c < 5 → nI (k + 10) ≠ nI c := fun c hc z => by rw [nI_inj (by omega) (by omega)] at z; omega
  unfold sto at q
  unfold p_M_raceAt
  refine ⟨rfl, w_isRace i.md (fun c => absurd rfl (c j hj)) (fun j' _ _ => ⟨fun _ => ⟨fun z => absurd z (ne 0 (by omega)), fun z => absurd z (ne 1 (by omega)), fun z => absurd z (ne 2 (by omega)), fun z => absurd z (ne 3 (by omega)), fun z => absurd z (ne 4 (by omega)), fun _ => ?_⟩, fun z => absurd z (by decide)⟩)⟩
  have e10 : ((10 : Int32) + nI n).toInt = 10 + n := by
    have : (10 : Int32) + nI n = nI (10 + n) := nI_add 10 n
    rw [this, ti_n (by omega)]; omega
  have e11 : (11 : Int32).toInt = 11 := rfl
  rw [mR2 i.m, mS2 i.m, cl_n (by omega), e]
  refine ⟨rfl, in_n (by omega) (by omega), w_in (fun c => ?_) (fun _ => ⟨fun _ v hv => ?_, fun z => absurd z (by decide)⟩)⟩
  · rw [e10, e11, ti_n (by omega)] at c; omega
  · have ev : v = nI (13 * j + k) := by
      rw [hv, ix13]
      exact (sb_n (a := 13 * j + (k + 10)) (b := 10) (by omega)).trans (by congr 1)
    subst ev
    rw [mR4 i.m, mS4 i.m, mR5 i.m, mS5 i.m, cl_n (by omega)]
    refine ⟨rfl, in_n (by omega) (by omega), fun z => ⟨rfl, in_n (by omega) (by omega), ?_⟩, fun z => ?_⟩
    · rw [if_pos z] at q; exact q
    · rw [if_neg z] at q; exact q
theorem w_dg1 (i : Inv L xs nr nt h) {K : Int64 → xH → Prop} {Q : Int64 → xH → Prop} (q : K (dg1 (hI h) nr) h) : ∃ f, p_T_digest_L6 (11, 0) K Q f (17 : Int64) (0 : Int32) h := by
  have hnr := i.vc.1
  have x10 := i.vc.2.2.1
  refine ⟨nr + 1, ?_⟩
  have key : ∀ (m a : Nat), a + m = nr → p_T_digest_L6 (11, 0) K Q (m + 1) (dg1 (hI h) a) (nI a) h := by
    intro m
    induction m with
    | zero =>
      intro a ha
      unfold p_T_digest_L6
      rw [x10]
      refine ⟨rfl, fun _ => ?_, fun c => absurd (by rw [le_nn (by omega) (by omega)]; omega) c⟩
      rw [show a = nr by omega]; exact q
    | succ m ih =>
      intro a ha
      have ih2 := ih (a + 1) (by omega)
      obtain ⟨n, u, a1, a2, a3, a4, a5, a6, a7, a8⟩ := VR_run i.vr (r := a) (by omega)
      have sr := i.sr.1 a (by omega)
      have vr := i.vr.1 a (by omega)
      unfold p_T_digest_L6
      rw [x10, xR_11_0_0 i.x, xS_27_0 i.x, cl_n (by omega), sr.1, vr.2.1]
      refine ⟨rfl, fun c => ?_, fun _ => ⟨rfl, in_n (by omega) (by omega), rfl, fun v6 h6 => ⟨n + 1, ?_⟩⟩⟩
      · rw [le_nn (by omega) (by omega)] at c; omega
      · have key2 : ∀ (m2 b : Nat), b + m2 = n → p_T_digest_L34 (11, 0) (nI a) (fun (x20 : Int64) (h21 : xH) => p_T_carriedInto (11, 0) (nI a) h21 (fun (v23 : Int32) (h22 : xH) => ∀ v24 : Int64, v24 = ((31 : Int64) * x20) + (v23.toInt64) → ∀ v26 : Int32, v26 = nI a + (1 : Int32) → (p_T_digest_L6 (11, 0) K Q (m + 1)) v24 v26 h22)) Q (m2 + 1) (dgR (hI h) a v6 b) (nI (b + 1)) h := by
          intro m2
          induction m2 with
          | zero =>
            intro b hb
            unfold p_T_digest_L34
            rw [xR_11_0_0 i.x, xS_27_0 i.x, cl_n (by omega), sr.1, a4]
            refine ⟨rfl, rfl, in_n (by omega) (by omega), rfl, fun _ => w_carried i (by omega) (fun w hw y hy => ?_), fun c => absurd (by rw [ti_lt, ti_n (by omega), ti_n (by omega)]; omega) c⟩
            rw [hw, hy, nI_1]
            unfold dg1 at ih2
            rw [a5, cl_n (by omega), ← h6, show n = b by omega] at ih2
            exact ih2
          | succ m2 ih3 =>
            intro b hb
            have ih4 := ih3 (b + 1) (by omega)
            unfold p_T_digest_L34
            rw [xR_11_0_0 i.x, xS_27_0 i.x, cl_n (by omega), sr.1, a4]
            refine ⟨rfl, rfl, in_n (by omega) (by omega), rfl, fun c => ?_, fun _ => ⟨in_n (by omega) (by omega), w_standing i (by omega) (by omega) (fun w hw y hy => ?_)⟩⟩
            · rw [ti_lt, ti_n (by omega), ti_n (by omega)] at c; omega
            · rw [nI_1] at hy; rw [hw, hy]; exact ih4
        exact key2 n 0 (by omega)
  exact key nr 0 (by omega)
theorem w_mdg1 (i : Inv L xs nr nt h) {K : Int64 → xH → Prop} {Q : Int64 → xH → Prop} (q : K (dg1 (hI h) nr) h) : ∃ f, p_M_digest_L6 (12, 0) K Q f (17 : Int64) (0 : Int32) h := by
  have hnr := i.vc.1
  have x0 := i.vc.2.2.2.1
  have m0 := i.m
  refine ⟨nr + 1, ?_⟩
  have key : ∀ (m a : Nat), a + m = nr → p_M_digest_L6 (12, 0) K Q (m + 1) (dg1 (hI h) a) (nI a) h := by
    intro m
    induction m with
    | zero =>
      intro a ha
      unfold p_M_digest_L6
      rw [x0]
      refine ⟨rfl, fun _ => ?_, fun c => absurd (by rw [le_nn (by omega) (by omega)]; omega) c⟩
      rw [show a = nr by omega]; exact q
    | succ m ih =>
      intro a ha
      have ih2 := ih (a + 1) (by omega)
      obtain ⟨n, u, a1, a2, a3, a4, a5, a6, a7, a8⟩ := VR_run i.vr (r := a) (by omega)
      unfold p_M_digest_L6
      rw [x0, mR1 m0, mS1 m0, cl_n (by omega)]
      refine ⟨rfl, fun c => ?_, fun _ => ⟨rfl, in_n (by omega) (by omega), fun v6 h6 => ⟨n + 1, ?_⟩⟩⟩
      · rw [le_nn (by omega) (by omega)] at c; omega
      · have e43 : (4 : Int32) * nI a + 3 = nI (4 * a + 3) := ix_n 4 a 3
        have key2 : ∀ (m2 b : Nat), b + m2 = n → p_M_digest_L31 (12, 0) (nI a) (fun (x17 : Int64) (h18 : xH) => (kd (hR h18 (12, 0) 16).1 = (2, 0)) ∧ (vp_in (((4 : Int32) * nI a) + (3 : Int32)) (hS h18 (hR h18 (12, 0) 16) - 1)) ∧ ∀ v21 : Int64, v21 = ((31 : Int64) * x17) + ((hI h18 (hR h18 (12, 0) 16) (((4 : Int32) * nI a) + (3 : Int32)).toNatClampNeg).toInt64) → ∀ v23 : Int32, v23 = nI a + (1 : Int32) → (p_M_digest_L6 (12, 0) K Q (m + 1)) v21 v23 h18) Q (m2 + 1) (dgR (hI h) a v6 b) (nI (b + 1)) h := by
          intro m2
          induction m2 with
          | zero =>
            intro b hb
            unfold p_M_digest_L31
            rw [mR2 m0, mS2 m0, cl_n (by omega), a5]
            refine ⟨rfl, rfl, in_n (by omega) (by omega), fun _ => ?_, fun c => absurd (by rw [ti_lt, ti_n (by omega), ti_n (by omega)]; omega) c⟩
            rw [mR16 m0, mS16 m0, e43, cl_n (by omega)]
            refine ⟨rfl, in_n (by omega) (by omega), fun w hw y hy => ?_⟩
            rw [hw, hy, nI_1]
            unfold dg1 at ih2
            rw [a5, cl_n (by omega), ← h6, show n = b by omega] at ih2
            exact ih2
          | succ m2 ih3 =>
            intro b hb
            have ih4 := ih3 (b + 1) (by omega)
            unfold p_M_digest_L31
            have e10 : (10 : Int32) + nI (b + 1) = nI (b + 1 + 10) := (nI_add 10 (b + 1)).trans (by congr 1; omega)
            rw [mR2 m0, mS2 m0, cl_n (by omega), a5, e10]
            refine ⟨rfl, rfl, in_n (by omega) (by omega), fun c => ?_, fun _ => w_mraceAt i (by omega) (by omega) (by omega) a2 a5 (fun w hw y hy => ?_)⟩
            · rw [ti_lt, ti_n (by omega), ti_n (by omega)] at c; omega
            · rw [nI_1] at hy; rw [hw, hy]; exact ih4
        exact key2 n 0 (by omega)
  exact key nr 0 (by omega)
theorem w_dg2 (i : Inv L xs nr nt h) {K : Int64 → xH → Prop} {Q : Int64 → xH → Prop} {acc : Int64} (q : K (dg2 (hI h) acc 49) h) : ∃ f, p_T_digest_L94 (11, 0) K Q f acc (0 : Int32) h := by
  refine ⟨50, ?_⟩
  have e48 : (48 : Int32).toInt = 48 := rfl
  have e11 : (11 : Int32).toInt = 11 := rfl
  have key : ∀ (m a : Nat), a + m = 49 → p_T_digest_L94 (11, 0) K Q (m + 1) (dg2 (hI h) acc a) (nI a) h := by
    intro m
    induction m with
    | zero =>
      intro a ha
      unfold p_T_digest_L94
      refine ⟨fun _ => ?_, fun c => absurd (by rw [ti_lt, ti_n (by omega), e48]; omega) c⟩
      rw [show a = 49 by omega]; exact q
    | succ m ih =>
      intro a ha
      have ih2 := ih (a + 1) (by omega)
      unfold dg2 at ih2
      unfold p_T_digest_L94
      rw [xR_11_0_1 i.x, xS_28_0 i.x, cl_n (by omega)]
      refine ⟨fun c => ?_, fun _ => ⟨rfl, rfl, in_n (by omega) (by omega), ?_⟩⟩
      · rw [ti_lt, ti_n (by omega), e48] at c; omega
      · rcases i.sp a (by omega) with z | z
        · rw [if_pos z.1] at ih2
          rw [z.2.1]
          refine ⟨fun _ => ⟨in_n (by omega) (by omega), rfl, rfl, fun v2 h2 => ⟨12, ?_⟩⟩, fun z => absurd z (by simp)⟩
          rw [(plk i (by omega) z.1).1] at h2
          rw [← h2] at ih2
          have key2 : ∀ (m2 b : Nat), b + m2 = 11 → p_Po_digestOnto_L14 (5, a) (fun (x12 : Int64) (h13 : xH) => ∀ v40 : Int32, v40 = nI a + (1 : Int32) → (p_T_digest_L94 (11, 0) K Q (m + 1)) x12 v40 h13) (fun (x12 : Int64) (h13 : xH) => ∀ v40 : Int32, v40 = nI a + (1 : Int32) → (p_T_digest_L94 (11, 0) K Q (m + 1)) x12 v40 h13) (m2 + 1) (dgB (hI h) a v2 b) (nI b) h := by
            intro m2
            induction m2 with
            | zero =>
              intro b hb
              unfold p_Po_digestOnto_L14
              refine ⟨fun _ y hy => ?_, fun c => absurd (by rw [ti_le, ti_n (by omega), e11]; omega) c⟩
              rw [hy, nI_1, show b = 11 by omega]; exact ih2
            | succ m2 ih3 =>
              intro b hb
              have ih4 := ih3 (b + 1) (by omega)
              unfold dgB at ih4
              unfold p_Po_digestOnto_L14
              rw [z.2.2.2.2.2.2.1, z.2.2.2.2.2.2.2.2.2, cl_n (by omega), be_eq i (by omega) z.1 (by omega)]
              refine ⟨fun c => ?_, fun _ => ⟨rfl, rfl, in_n (by omega) (by omega), fun w hw y hy => ?_⟩⟩
              · rw [ti_le, ti_n (by omega), e11] at c; omega
              · rw [nI_1] at hy; rw [hw, hy]; exact ih4
          exact key2 11 0 (by omega)
        · rw [if_neg (by rw [z.1]; decide)] at ih2
          rw [z.2.1]
          refine ⟨fun z => absurd rfl z, fun _ y hy => ?_⟩
          rw [hy, nI_1]; exact ih2
  exact key 49 0 (by omega)
theorem w_mdg2 (i : Inv L xs nr nt h) {K : Int64 → xH → Prop} {Q : Int64 → xH → Prop} {acc : Int64} (q : K (dg2 (hI h) acc 49) h) : ∃ f, p_M_digest_L92 (12, 0) K Q f acc (0 : Int32) h := by
  refine ⟨50, ?_⟩
  have m0 := i.m
  have e49 : (49 : Int32).toInt = 49 := rfl
  have e11 : (11 : Int32).toInt = 11 := rfl
  have key : ∀ (m a : Nat), a + m = 49 → p_M_digest_L92 (12, 0) K Q (m + 1) (dg2 (hI h) acc a) (nI a) h := by
    intro m
    induction m with
    | zero =>
      intro a ha
      unfold p_M_digest_L92
      refine ⟨fun _ => ?_, fun c => absurd (by rw [ti_le, ti_n (by omega), e49]; omega) c⟩
      rw [show a = 49 by omega]; exact q
    | succ m ih =>
      intro a ha
      have ih2 := ih (a + 1) (by omega)
      unfold dg2 at ih2
      unfold p_M_digest_L92
      rw [mR6 m0, mS6 m0, cl_n (by omega)]
      refine ⟨fun c => ?_, fun _ => ⟨rfl, rfl, in_n (by omega) (by omega), fun z y hy => ?_, fun z v2 h2 => ⟨12, ?_⟩⟩⟩
      · rw [ti_le, ti_n (by omega), e49] at c; omega
      · rw [if_neg (by rw [z]; decide)] at ih2
        rw [hy, nI_1]; exact ih2
      · have there := (p40 i (p := a) (by omega)).resolve_left z
        rw [if_pos there, ← h2] at ih2
        have key2 : ∀ (m2 b : Nat), b + m2 = 11 → p_M_digest_L119 (12, 0) (nI a) (fun (x45 : Int64) (h46 : xH) => ∀ v47 : Int32, v47 = nI a + (1 : Int32) → (p_M_digest_L92 (12, 0) K Q (m + 1)) x45 v47 h46) Q (m2 + 1) (dgB (hI h) a v2 b) (nI b) h := by
          intro m2
          induction m2 with
          | zero =>
            intro b hb
            unfold p_M_digest_L119
            refine ⟨fun _ y hy => ?_, fun c => absurd (by rw [ti_le, ti_n (by omega), e11]; omega) c⟩
            rw [hy, nI_1, show b = 11 by omega]; exact ih2
          | succ m2 ih3 =>
            intro b hb
            have ih4 := ih3 (b + 1) (by omega)
            unfold dgB at ih4
            unfold p_M_digest_L119
            refine ⟨fun c => ?_, fun _ => ⟨rfl, w_mbook i (SM.rf h) (by omega) there (by omega) (fun w hw y hy => ?_)⟩⟩
            · rw [ti_le, ti_n (by omega), e11] at c; omega
            · rw [nI_1] at hy; rw [hw, hy]; exact ih4
        exact key2 11 0 (by omega)
  exact key 49 0 (by omega)
theorem w_dg3 (i : Inv L xs nr nt h) {K : Int64 → xH → Prop} {Q : Int64 → xH → Prop} {acc : Int64} (q : K (dg3 (hI h) acc nt) h) : ∃ f, p_T_digest_L132 (11, 0) K Q f acc (0 : Int32) h := by
  have hn := i.vc.2.1
  have x11 := i.vc.2.2.2.2.1
  refine ⟨nt + 1, ?_⟩
  have key : ∀ (m a : Nat), a + m = nt → p_T_digest_L132 (11, 0) K Q (m + 1) (dg3 (hI h) acc a) (nI a) h := by
    intro m
    induction m with
    | zero =>
      intro a ha
      unfold p_T_digest_L132
      rw [x11]
      refine ⟨rfl, fun _ => ?_, fun c => absurd (by rw [le_nn (by omega) (by omega)]; omega) c⟩
      rw [show a = nt by omega]; exact q
    | succ m ih =>
      intro a ha
      have ih2 := ih (a + 1) (by omega)
      unfold dg3 at ih2
      obtain ⟨p, A, B, C, u, k⟩ := tkf i (t := a) (by omega)
      have tr := tkr i (by omega) k
      have w := k.cls
      unfold p_T_digest_L132
      rw [x11, xR_11_0_2 i.x, xS_29_0 i.x, cl_n (by omega), tr.1, w.2.1, w.2.2.1, w.2.2.2.1, w.2.2.2.2.2]
      have vi : vp_in (nI a) (201 - 1) := in_n (by omega) (by omega)
      refine ⟨rfl, fun c => ?_, fun _ => ⟨rfl, vi, rfl, fun v1 h1 => ⟨vi, fun v2 h2 => ⟨vi, fun v3 h3 => ⟨vi, fun v4 h4 y hy => ?_⟩⟩⟩⟩⟩
      · rw [le_nn (by omega) (by omega)] at c; omega
      · rw [hy, nI_1, h4, h3, h2, h1]; exact ih2
  exact key nt 0 (by omega)
theorem w_mdg3 (i : Inv L xs nr nt h) {K : Int64 → xH → Prop} {Q : Int64 → xH → Prop} {acc : Int64} (q : K (dg3 (hI h) acc nt) h) : ∃ f, p_M_digest_L155 (12, 0) K Q f acc (0 : Int32) h := by
  have hn := i.vc.2.1
  have x23 := i.vc.2.2.2.2.2
  have m0 := i.m
  refine ⟨nt + 1, ?_⟩
  have key : ∀ (m a : Nat), a + m = nt → p_M_digest_L155 (12, 0) K Q (m + 1) (dg3 (hI h) acc a) (nI a) h := by
    intro m
    induction m with
    | zero =>
      intro a ha
      unfold p_M_digest_L155
      rw [x23]
      refine ⟨rfl, fun _ => ?_, fun c => absurd (by rw [le_nn (by omega) (by omega)]; omega) c⟩
      rw [show a = nt by omega]; exact q
    | succ m ih =>
      intro a ha
      have ih2 := ih (a + 1) (by omega)
      unfold dg3 at ih2
      unfold p_M_digest_L155
      rw [x23, mR25 m0, mS25 m0, mR26 m0, mS26 m0, mR28 m0, mS28 m0, mR29 m0, mS29 m0, cl_n (by omega)]
      have vi : vp_in (nI a) (201 - 1) := in_n (by omega) (by omega)
      refine ⟨rfl, fun c => ?_, fun _ => ⟨rfl, vi, fun v1 h1 => ⟨rfl, vi, fun v2 h2 => ⟨rfl, vi, fun v3 h3 => ⟨rfl, vi, fun v4 h4 y hy => ?_⟩⟩⟩⟩⟩
      · rw [le_nn (by omega) (by omega)] at c; omega
      · rw [hy, nI_1, h4, h3, h2, h1]; exact ih2
  exact key nt 0 (by omega)
abbrev NxL (L : Nat) (xs : Nat → Int32) (pm : xH → (Int64 → xH → Prop) → Prop) (F : Int64 → xH → Prop) : Prop := ∀ a h1, VS (hS h1) (hI h1) L xs → (∀ G : Int64 → xH → Prop, (∀ h2, Ok L xs h2 → G a h2) → pm h1 G) → F a h1
/-- promise 50 -/
theorem o_digest (H : Ok L xs h) {F : Int64 → xH → Prop} (hF : NxL L xs (p_M_digest (12, 0)) F) : p_T_digest (11, 0) h F := by
  obtain ⟨nr, nt, i⟩ := H
  unfold p_T_digest
  refine w_dg1 i (w_dg2 i (w_dg3 i ⟨rfl, hF _ _ i.vs (fun G hG => ?_)⟩))
  unfold p_M_digest
  refine w_mdg1 i (w_mdg2 i (w_mdg3 i ⟨rfl, ?_⟩))
  rw [← i.vn.1]
  exact hG h ⟨nr, nt, i⟩
end Digest
