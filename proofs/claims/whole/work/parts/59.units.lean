section Units
variable {qq : Prop} {L : Nat} {xs : Nat → Int32} {nr nt : Nat} {v h g : xH}
theorem lsn {p a b c : Nat} (ha : a ≤ 12) (hb : b ≤ 12) (hc : c ≤ 12) : lin2 (kf p) a b c < lls p ∧ lls p ≤ 2197 := ⟨lin2_lt ha hb hc, lls_le⟩
/-- promise 15 -/
theorem o_units (H : Ok L xs h) (r a b c : Int32) {F : Int32 → xH → Prop} (hF : Nx L xs (p_M_units (12, 0) r a b c) F) : p_T_units (11, 0) r a b c h F := by
  obtain ⟨nr, nt, i⟩ := H
  have hn := i.vc.2.1
  have x23 := i.vc.2.2.2.2.2
  have m := i.m
  unfold p_T_units
  refine ⟨rfl, w_findPool i (SC.rf h) (fun hno => ⟨fun z => absurd rfl z, fun _ => hF _ _ i.vs (fun G hG => ?_)⟩) (fun p hp there e => ⟨fun _ => ⟨rfl, ?_⟩, fun z => absurd z (nz 4 p)⟩)⟩
  · unfold p_M_units
    exact ⟨rfl, w_isThere i (SM.rf h) (fun _ => ⟨fun z => absurd rfl z, fun _ => hG h ⟨nr, nt, i⟩⟩) (fun p hp c e => absurd e (hno p hp c))⟩
  subst e
  refine w_refuseLine i (SC.rf h) hp there (fun z => ⟨fun y => absurd y (by decide), fun _ => hF _ _ i.vs (fun G hG => ?_)⟩) (fun z z2 => ⟨fun y => absurd y (by decide), fun _ => hF _ _ i.vs (fun G hG => ?_)⟩) (fun z z2 => ⟨fun _ => ?_, fun y => absurd rfl y⟩)
  · unfold p_M_units
    exact ⟨rfl, w_isThere i (SM.rf h) (fun y => absurd rfl (y p hp there)) (fun _ _ _ _ => ⟨fun _ => w_barsRow i (SM.rf h) hp there (fun _ => ⟨fun y => absurd y (by decide), fun _ => hG h ⟨nr, nt, i⟩⟩) (fun y => absurd y z) (fun y => absurd y z), fun y => absurd y (by decide)⟩)⟩
  · unfold p_M_units
    exact ⟨rfl, w_isThere i (SM.rf h) (fun y => absurd rfl (y p hp there)) (fun _ _ _ _ => ⟨fun _ => w_barsRow i (SM.rf h) hp there (fun y => absurd z y) (fun _ _ => ⟨fun y => absurd y (by decide), fun _ => hG h ⟨nr, nt, i⟩⟩) (fun _ y => absurd z2 y), fun y => absurd y (by decide)⟩)⟩
  · obtain ⟨a', b', c', rfl, rfl, rfl, a1, a2, b2, c2, k1, k2, k3, k4⟩ := lgood_n i hp there z
    have pr := plr i hp there
    have pk := plk i hp there
    have ls := lsn (p := p) a2 b2 c2
    refine w_lineOf (k := kf p) rfl kf_le pk.2.1 a2 b2 ?_
    rw [pr.2.2.2.1, pr.2.2.2.2.2.2.1, cl_n (by omega), (i.vv p hp there).2 _ ls.1]
    refine ⟨rfl, in_n (by omega) (by omega), hF _ _ i.vs (fun G hG => ?_)⟩
    unfold p_M_units
    refine ⟨rfl, w_isThere i (SM.rf h) (fun y => absurd rfl (y p hp there)) (fun _ _ _ _ => ⟨fun _ => w_barsRow i (SM.rf h) hp there (fun y => absurd z y) (fun _ y => absurd y z2) (fun _ _ => ⟨fun _ => ⟨nt + 1, ?_⟩, fun y => absurd (by decide) y⟩), fun y => absurd y (by decide)⟩)⟩
    have key : ∀ (m a : Nat), a + m = nt → p_M_units_L36 (12, 0) (nI p) (nI a') (nI b') (nI c') (fun x h => G x h) G (m + 1) (nI (lvl (hI h) a p (lin2 (kf p) a' b' c'))) (nI a) h := by
      intro mm
      induction mm with
      | zero =>
        intro a ha
        unfold p_M_units_L36
        rw [x23]
        refine ⟨rfl, fun _ => ?_, fun c => absurd (by rw [le_nn (by omega) (by omega)]; omega) c⟩
        rw [show a = nt by omega]; exact hG h ⟨nr, nt, i⟩
      | succ mm ih =>
        intro a ha
        have ih2 := ih (a + 1) (by omega)
        have ls2 : lvl (hI h) (a + 1) p (lin2 (kf p) a' b' c') = lvl (hI h) a p (lin2 (kf p) a' b' c') + (if hI h (58, 0) a = nI p ∧ hI h (63, 0) a = 0 ∧ tl (hI h) a = lin2 (kf p) a' b' c' then (hI h (62, 0) a).toNatClampNeg else 0) := rfl
        rw [ls2] at ih2
        obtain ⟨p', A, B, C, u, k⟩ := tkf i (t := a) (by omega)
        have hu := k.u2
        unfold p_M_units_L36
        rw [x23, mR29 m, mS29 m, cl_n (by omega)]
        refine ⟨rfl, fun c => ?_, fun _ => ⟨rfl, in_n (by omega) (by omega), fun c w hw x hx => ?_, fun c => w_isFor i (SM.rf h) (by omega) hp a2 b2 c2 k1 k3 (fun z => ⟨fun _ w hw x hx => ?_, fun y => absurd rfl y⟩) (fun z => ⟨fun y => absurd y (by decide), fun _ => ?_⟩)⟩⟩
        · rw [le_nn (by omega) (by omega)] at c; omega
        · rw [if_neg (fun y => c y.2.1), Nat.add_zero] at ih2
          rw [hw, hx, nI_1, Int32.add_zero]; exact ih2
        · rw [if_neg (fun y => z ⟨y.1, y.2.2⟩), Nat.add_zero] at ih2
          rw [hw, hx, nI_1, Int32.add_zero]; exact ih2
        · rw [mR28 m, mS28 m, k.eu]
          refine ⟨rfl, in_n (by omega) (by omega), fun w hw x hx => ?_⟩
          rw [if_pos ⟨z.1, c, z.2⟩, k.eu, cl_n (by omega)] at ih2
          rw [hw, hx, nI_1, nI_add]; exact ih2
    exact key nt 0 (by omega)
/-- promise 16 -/
theorem o_dividend (H : Ok L xs h) (r a b c : Int32) {F : Int32 → xH → Prop} (hF : Nx L xs (p_M_dividend (12, 0) r a b c) F) : p_T_dividend (11, 0) r a b c h F := by
  obtain ⟨nr, nt, i⟩ := H
  have hn := i.vc.2.1
  have x23 := i.vc.2.2.2.2.2
  have m := i.m
  unfold p_T_dividend
  refine ⟨rfl, w_findPool i (SC.rf h) (fun hno => ⟨fun z => absurd rfl z, fun _ => hF _ _ i.vs (fun G hG => ?_)⟩) (fun p hp there e => ⟨fun _ => ⟨rfl, ?_⟩, fun z => absurd z (nz 4 p)⟩)⟩
  · unfold p_M_dividend
    exact ⟨rfl, w_isThere i (SM.rf h) (fun _ => ⟨fun z => absurd rfl z, fun _ => hG h ⟨nr, nt, i⟩⟩) (fun p hp c e => absurd e (hno p hp c))⟩
  subst e
  refine w_refuseLine i (SC.rf h) hp there (fun z => ⟨fun y => absurd y (by decide), fun _ => hF _ _ i.vs (fun G hG => ?_)⟩) (fun z z2 => ⟨fun y => absurd y (by decide), fun _ => hF _ _ i.vs (fun G hG => ?_)⟩) (fun z z2 => ⟨fun _ => ?_, fun y => absurd rfl y⟩)
  · unfold p_M_dividend
    exact ⟨rfl, w_isThere i (SM.rf h) (fun y => absurd rfl (y p hp there)) (fun _ _ _ _ => ⟨fun _ => w_barsRow i (SM.rf h) hp there (fun _ => ⟨fun y => absurd y (by decide), fun _ => hG h ⟨nr, nt, i⟩⟩) (fun y => absurd y z) (fun y => absurd y z), fun y => absurd y (by decide)⟩)⟩
  · unfold p_M_dividend
    exact ⟨rfl, w_isThere i (SM.rf h) (fun y => absurd rfl (y p hp there)) (fun _ _ _ _ => ⟨fun _ => w_barsRow i (SM.rf h) hp there (fun y => absurd z y) (fun _ _ => ⟨fun y => absurd y (by decide), fun _ => hG h ⟨nr, nt, i⟩⟩) (fun _ y => absurd z2 y), fun y => absurd y (by decide)⟩)⟩
  · obtain ⟨a', b', c', rfl, rfl, rfl, a1, a2, b2, c2, k1, k2, k3, k4⟩ := lgood_n i hp there z
    have pr := plr i hp there
    have pk := plk i hp there
    have ls := lsn (p := p) a2 b2 c2
    have mh : ∀ G : Int32 → xH → Prop, ((¬ hI h (43, 0) p = 0 → (∃ f26, p_M_dividend_L45 (12, 0) (nI p) (nI a') (nI b') (nI c') (fun (h25 : xH) => G (0 : Int32) h25) G f26 (0 : Int32) h)) ∧ (hI h (43, 0) p = 0 → G (-6 : Int32) h)) → p_M_dividend (12, 0) (nI p) (nI a') (nI b') (nI c') h G := fun G q => by
      unfold p_M_dividend
      refine ⟨rfl, w_isThere i (SM.rf h) (fun y => absurd rfl (y p hp there)) (fun _ _ _ _ => ⟨fun _ => w_barsRow i (SM.rf h) hp there (fun y => absurd z y) (fun _ y => absurd y z2) (fun _ _ => ⟨fun _ => ?_, fun y => absurd (by decide) y⟩), fun y => absurd y (by decide)⟩)⟩
      rw [mR9 m, mS9 m, cl_n (by omega)]
      exact ⟨rfl, in_n (by omega) (by omega), q⟩
    refine w_isSettled i (SC.rf h) hp there (fun y => ⟨fun _ => hF _ _ i.vs (fun G hG => mh G ⟨fun x => absurd y x, fun _ => hG h ⟨nr, nt, i⟩⟩), fun x => absurd rfl x⟩) (fun y => ⟨fun x => absurd x (by decide), fun _ => w_lineOf (k := kf p) rfl kf_le pk.2.1 a2 b2 ?_⟩)
    rw [pr.2.2.2.2.1, pr.2.2.2.2.2.2.2.1, cl_n (by omega)]
    refine ⟨rfl, in_n (by omega) (by omega), hF _ _ i.vs (fun G hG => mh G ⟨fun _ => ⟨nt + 1, ?_⟩, fun x => absurd (y.symm.trans x) (by decide)⟩)⟩
    have vd := i.vd p hp there _ ls.1
    have key : ∀ (mm a : Nat), a + mm = nt → (∀ t, t < a → hI h (66, 0) t = 1 → hI h (58, 0) t = nI p → tl (hI h) t ≠ lin2 (kf p) a' b' c') → p_M_dividend_L45 (12, 0) (nI p) (nI a') (nI b') (nI c') (fun h => G 0 h) G (mm + 1) (nI a) h := by
      intro mm
      induction mm with
      | zero =>
        intro a ha hno
        unfold p_M_dividend_L45
        rw [x23]
        refine ⟨rfl, fun _ => ?_, fun c => absurd (by rw [le_nn (by omega) (by omega)]; omega) c⟩
        have := hG h ⟨nr, nt, i⟩
        rw [vd.2 (fun t ht => hno t (by omega))] at this
        exact this
      | succ mm ih =>
        intro a ha hno
        obtain ⟨p', A, B, C, u, k⟩ := tkf i (t := a) (by omega)
        unfold p_M_dividend_L45
        rw [x23, mR32 m, mS32 m, cl_n (by omega)]
        refine ⟨rfl, fun c => ?_, fun _ => ⟨rfl, in_n (by omega) (by omega), fun c x hx => ?_, fun c => w_isFor i (SM.rf h) (by omega) hp a2 b2 c2 k1 k3 (fun z => ⟨fun _ x hx => ?_, fun y => absurd rfl y⟩) (fun z => ⟨fun y => absurd y (by decide), fun _ => ?_⟩)⟩⟩
        · rw [le_nn (by omega) (by omega)] at c; omega
        · rw [hx, nI_1]
          exact ih (a + 1) (by omega) (fun t ht e1 e2 => if e : t = a then by rw [e] at e1; exact absurd (c.symm.trans e1) (by decide) else hno t (by omega) e1 e2)
        · rw [hx, nI_1]
          exact ih (a + 1) (by omega) (fun t ht e1 e2 e3 => if e : t = a then z (by rw [← e]; exact ⟨e2, e3⟩) else hno t (by omega) e1 e2 e3)
        · rw [mR31 m, mS31 m]
          refine ⟨rfl, in_n (by omega) (by omega), ?_⟩
          have c1 : hI h (66, 0) a = 1 := k.cnt.elim (fun z => z.1) (fun z => absurd z.1 c)
          have := hG h ⟨nr, nt, i⟩
          rw [vd.1 a (by omega) c1 z.1 z.2] at this
          exact this
    exact key nt 0 (by omega) (fun t ht => by omega)
theorem psl_n {f : Nat → Int64} {d : Nat → Nat} : ∀ n, (∀ k, k < n → f k = lN (d k)) → psl f n = lN (sm d n)
  | 0, _ => rfl
  | n + 1, e => by
    unfold psl sm
    rw [psl_n n (fun k hk => e k (by omega)), e n (by omega), lN_add]
theorem psm_n {f : Nat → Int32} {d : Nat → Nat} : ∀ n, (∀ k, k < n → f k = nI (d k)) → psm f n = nI (sm d n)
  | 0, _ => rfl
  | n + 1, e => by
    unfold psm sm
    rw [psm_n n (fun k hk => e k (by omega)), e n (by omega), nI_add]
theorem sm_le {f : Nat → Nat} {B : Nat} : ∀ n, (∀ k, k < n → f k ≤ B) → sm f n ≤ n * B
  | 0, _ => Nat.zero_le _
  | n + 1, e => by
    unfold sm
    have := sm_le n (fun k hk => e k (by omega))
    have := e n (by omega)
    rw [Nat.succ_mul]; omega
theorem sm_ge {f : Nat → Nat} {B : Nat} : ∀ n, (∀ k, k < n → B ≤ f k) → n * B ≤ sm f n
  | 0, _ => by simp
  | n + 1, e => by
    unfold sm
    have := sm_ge n (fun k hk => e k (by omega))
    have := e n (by omega)
    rw [Nat.succ_mul]; omega
/-- all stakes together -/
theorem stakes_le (i : InvQ qq L xs nr nt v) (c : Nat → Prop) [DecidablePred c] : sm (fun t => if c t then (hI v (62, 0) t).toNatClampNeg * (hI v (42, 0) (hI v (58, 0) t).toNatClampNeg).toNatClampNeg else 0) nt ≤ 200000000 := by
  have hn := i.vc.2.1
  have := sm_le (f := fun t => if c t then (hI v (62, 0) t).toNatClampNeg * (hI v (42, 0) (hI v (58, 0) t).toNatClampNeg).toNatClampNeg else 0) (B := 1000000) nt (fun t ht => by
    obtain ⟨p, A, B, C, u, k⟩ := tkf i ht
    have hp := k.p49; have hu := k.u2
    obtain ⟨d, d1, d2, d3⟩ := (plk i hp k.there).2.2.2.2.2.1
    simp only [k.pool, k.eu, cl_n (show p < 2147483648 by omega), d3, cl_n (show u < 2147483648 by omega), cl_n (show d < 2147483648 by omega)]
    split
    · exact Nat.mul_le_mul hu d2
    · omega)
  omega
theorem ded_eq (i : InvQ qq L xs nr nt v) : psl (fun p => (hI v (49, 0) p).toInt64) 49 = (psm (fun p => hI v (49, 0) p) 49).toInt64 ∧ ∃ D, D ≤ 200000000 ∧ psm (fun p => hI v (49, 0) p) 49 = nI D := by
  obtain ⟨ca, dd, re, v1, v2, v3, v4, v5, v6⟩ := i.vm
  have B : sm dd 49 ≤ 200000000 := Nat.le_trans (by omega) (stakes_le i (fun t => hI v (43, 0) (hI v (58, 0) t).toNatClampNeg = 1))
  have each : ∀ p, p < 49 → dd p ≤ sm dd 49 := fun p hp => by
    have := sm_ex (f := dd) (g := fun k => if k = p then 0 else dd k) (i := p) (fun k hk => if_neg hk) 49 hp
    simp at this; omega
  have e2 : psm (fun p => hI v (49, 0) p) 49 = nI (sm dd 49) := psm_n 49 v2
  refine ⟨?_, _, B, e2⟩
  rw [e2, nI_l (by omega)]
  exact psl_n 49 (fun p hp => by rw [v2 p hp, nI_l (by have := each p hp; omega)])
/-- promise 23 -/
theorem o_premium (H : Ok L xs h) (x : Int32) {F : Int32 → xH → Prop} (hF : Nx L xs (p_M_premium (12, 0) x) F) : p_T_premium (11, 0) x h F := by
  obtain ⟨nr, nt, i⟩ := H
  have hn := i.vc.2.1
  have x11 := i.vc.2.2.2.2.1
  have x23 := i.vc.2.2.2.2.2
  have e0 : (0 : Int32).toInt = 0 := rfl
  have e5 : (5 : Int32).toInt = 5 := rfl
  have m := i.m
  generalize hal : (fun t => (hI h (62, 0) t).toInt64) = al
  have eal : ∀ t, (hI h (62, 0) t).toInt64 = al t := fun t => by rw [← hal]
  generalize hin : (fun t => if hI h (64, 0) t = x then (hI h (62, 0) t).toInt64 else 0) = inn
  have ein : ∀ t, (if hI h (64, 0) t = x then (hI h (62, 0) t).toInt64 else 0) = inn t := fun t => by rw [← hin]
  have call : psl al nt = lN (sm (fun t => (hI h (62, 0) t).toNatClampNeg) nt) := psl_n nt (fun t ht => by
    obtain ⟨p, A, B, C, u, k⟩ := tkf i ht
    have hu := k.u2
    rw [← eal, k.eu, cl_n (by omega), nI_l (by omega)])
  have b1 := sm_le (f := fun t => (hI h (62, 0) t).toNatClampNeg) (B := 1000) nt (fun t ht => by
    obtain ⟨p, A, B, C, u, k⟩ := tkf i ht
    have hu := k.u2
    simp only [k.eu, cl_n (show u < 2147483648 by omega)]; exact hu)
  have b2 := sm_ge (f := fun t => (hI h (62, 0) t).toNatClampNeg) (B := 1) nt (fun t ht => by
    obtain ⟨p, A, B, C, u, k⟩ := tkf i ht
    have hu := k.u2
    simp only [k.eu, cl_n (show u < 2147483648 by omega)]; exact k.u1)
  have z0' : psl al nt = 0 ↔ nt = 0 := by
    rw [call]
    have : (0 : Int64) = lN 0 := rfl
    rw [this, lN_eq (by omega) (by omega)]
    constructor
    · intro e; omega
    · intro e; subst e; rfl
  unfold p_T_premium
  refine w_isWindow (fun c => ⟨fun z => absurd rfl z, fun _ => hF _ _ i.vs (fun G hG => ?_)⟩) (fun w hw e => ⟨fun _ => ⟨nt + 1, ?_⟩, fun z => absurd z (by decide)⟩)
  · unfold p_M_premium
    refine w_in (fun _ => ⟨fun z => absurd rfl z, fun _ => hG h ⟨nr, nt, i⟩⟩) (fun c2 => ?_)
    rw [e0, e5] at c2
    exact absurd (by rw [ti_eq, ti_n (by omega)]; omega) (c x.toInt.toNat (by omega))
  · have hwx : 0 ≤ x.toInt ∧ x.toInt ≤ 5 := by rw [e, ti_n (by omega)]; omega
    have mh : ∀ (G : Int32 → xH → Prop) (g : xH), SM h g → ((¬ nt = 0 → G ((((psm (fun p => hI h (49, 0) p) 49).toInt64 * psl inn nt) / psl al nt).toInt32) g) ∧ (nt = 0 → p_M_meets (12, 0) 6 g G)) → p_M_premium (12, 0) x g G := by
      intro G g sm q
      have mg := SM.m i sm
      unfold p_M_premium
      refine w_in (fun c => absurd hwx c) (fun _ => ⟨fun _ => ⟨rfl, ?_⟩, fun z => absurd z (by decide)⟩)
      rw [sm.i 12, x23]
      have n0 : nI nt = (0 : Int32) ↔ nt = 0 := nI_inj (b := 0) (by omega) (by omega)
      rw [n0]
      refine ⟨fun c => ⟨nt + 1, ?_⟩, fun c => q.2 c⟩
      have key : ∀ (mm a : Nat), a + mm = nt → p_M_premium_L34 (12, 0) x (fun (x24 : Int64) (x25 : Int64) (h26 : xH) => p_M_allDeducted (12, 0) h26 (fun (v28 : Int32) (h27 : xH) => (¬ x24 = 0) ∧ G ((((v28.toInt64) * x25) / x24).toInt32) h27)) G (mm + 1) (psl al a) (psl inn a) (nI a) g := by
        intro mm
        induction mm with
        | zero =>
          intro a ha
          unfold p_M_premium_L34
          rw [sm.i 12, x23]
          refine ⟨rfl, fun _ => w_mallDeducted mg ?_, fun c => absurd (by rw [le_nn (by omega) (by omega)]; omega) c⟩
          rw [show a = nt by omega]
          have e49 : (fun p => hI g (49, 0) p) = (fun p => hI h (49, 0) p) := by funext p; exact sm.i 49 p
          rw [e49]
          exact ⟨fun z => c (z0'.mp z), q.1 c⟩
        | succ mm ih =>
          intro a ha
          have ih2 := ih (a + 1) (by omega)
          unfold psl at ih2
          unfold p_M_premium_L34
          rw [sm.i 12, x23, mR28 mg, mS28 mg, mR30 mg, mS30 mg, cl_n (by omega), sm.i 62, sm.i 64, eal]
          have eia := ein a
          refine ⟨rfl, fun c => ?_, fun _ => ⟨rfl, in_n (by omega) (by omega), fun v10 h10 => ⟨rfl, in_n (by omega) (by omega), fun c w hw y hy => ?_, fun c => ⟨in_n (by omega) (by omega), fun w hw y hy => ?_⟩⟩⟩⟩
          · rw [le_nn (by omega) (by omega)] at c; omega
          · rw [if_neg c] at eia
            rw [eia] at hw; rw [h10, hw, hy, nI_1]; exact ih2
          · rw [if_pos c, eal] at eia
            rw [eia] at hw; rw [h10, hw, hy, nI_1]; exact ih2
      exact key nt 0 (by omega)
    have key : ∀ (mm a : Nat), a + mm = nt → p_T_premium_L18 (11, 0) x (fun (x22 : Int64) (x23 : Int64) (h24 : xH) => ((¬ (lg_cmp x23 (0 : Int64)) = 0 → (kd (11, 0).1 = (1, 9)) ∧ p_T_allDeducted (11, 0) h24 (fun (v28 : Int64) (h27 : xH) => (¬ x23 = 0) ∧ F (((v28 * x22) / x23).toInt32) h27)) ∧ ((lg_cmp x23 (0 : Int64)) = 0 → (kd (11, 0).1 = (1, 9)) ∧ p_T_found (11, 0) (6 : Int32) h24 (fun (v32 : Int32) (h31 : xH) => F v32 h31)))) F (mm + 1) (psl inn a) (psl al a) (nI a) h := by
      intro mm
      induction mm with
      | zero =>
        intro a ha
        unfold p_T_premium_L18
        rw [x11]
        refine ⟨rfl, fun _ => ?_, fun c => absurd (by rw [le_nn (by omega) (by omega)]; omega) c⟩
        rw [show a = nt by omega, lg_cmp_eq]
        refine ⟨fun c => ⟨rfl, w_allDeducted i ⟨c, ?_⟩⟩, fun c => ⟨rfl, w_found i.x (k := 6) (by omega) (fin_find (k := 6) i (by omega) (by omega) hF (fun G g => ?_))⟩⟩
        · rw [(ded_eq i).1]
          exact hF _ _ i.vs (fun G hG => mh G h (SM.rf h) ⟨fun _ => hG h ⟨nr, nt, i⟩, fun z => absurd (z0'.mpr z) c⟩)
        · exact mh G _ (SM.kc (fd_sm h 6)) ⟨fun z => absurd (z0'.mp c) z, fun _ => g⟩
      | succ mm ih =>
        intro a ha
        have ih2 := ih (a + 1) (by omega)
        unfold psl at ih2
        obtain ⟨p, A, B, C, u, k⟩ := tkf i (t := a) (by omega)
        have tr := tkr i (by omega) k
        unfold p_T_premium_L18
        rw [x11, xR_11_0_2 i.x, xS_29_0 i.x, cl_n (by omega), tr.1, k.cls.1, k.cls.2.1, eal]
        have eia := ein a
        refine ⟨rfl, fun c => ?_, fun _ => ⟨rfl, in_n (by omega) (by omega), rfl, fun v9 h9 => ⟨in_n (by omega) (by omega), fun c w hw y hy => ?_, fun c => ⟨in_n (by omega) (by omega), fun w hw y hy => ?_⟩⟩⟩⟩
        · rw [le_nn (by omega) (by omega)] at c; omega
        · rw [if_neg c] at eia
          rw [eia] at hw; rw [h9, hw, hy, nI_1]; exact ih2
        · rw [if_pos c, eal] at eia
          rw [eia] at hw; rw [h9, hw, hy, nI_1]; exact ih2
    exact key nt 0 (by omega)
end Units
