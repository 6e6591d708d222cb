section Scratch2
variable {L : Nat} {xs : Nat → Int32} {nr nt : Nat} {v h g : xH}
def outV (h : xH) (j k : Nat) : xH := sI (sI (sI h (20, j) k 1) (6, j) 6 (hI h (6, j) 6 - 1)) (38, 0) (13 * j + k) 1
theorem Inv.out (i : Inv L xs nr nt h) {j k : Nat} (hj : j < nr) (k1 : 1 ≤ k) (k2 : k ≤ (hI h (36, 0) j).toNatClampNeg) (nout : hI h (38, 0) (13 * j + k) = 0) (st : hI h (35, 0) j = 0) : Inv L xs nr nt (outV h j k) := by
  have hnr := i.vc.1
  obtain ⟨n, u, a1, a2, a3, a4, a5, a6, a7, a8⟩ := VR_run i.vr hj
  rw [a5, cl_n (by omega)] at k2
  have S : Sm (KL [((20, j), k), ((6, j), 6), ((38, 0), 13 * j + k)]) h (outV h j k) := (((Sm.rf _ h).si _ (by simp [KL])).si _ (by simp [KL])).si _ (by simp [KL])
  have e38 : ∀ q, hI (outV h j k) (38, 0) q = if q = 13 * j + k then 1 else hI h (38, 0) q := fun q => by unfold outV; simp [hI_sI]
  have e20 : ∀ r q, hI (outV h j k) (20, r) q = if r = j ∧ q = k then 1 else hI h (20, r) q := fun r q => by unfold outV; simp [hI_sI]
  have e6 : hI (outV h j k) (6, j) 6 = hI h (6, j) 6 - 1 := by unfold outV; simp [hI_sI]
  generalize outV h j k = h2 at *
  have o35 : ∀ q, hI h2 (35, 0) q = hI h (35, 0) q := fun q => S.1 _ _ (by simp [KL])
  have o36 : ∀ q, hI h2 (36, 0) q = hI h (36, 0) q := fun q => S.1 _ _ (by simp [KL])
  have o37 : ∀ q, hI h2 (37, 0) q = hI h (37, 0) q := fun q => S.1 _ _ (by simp [KL])
  have o39 : ∀ q, hI h2 (39, 0) q = hI h (39, 0) q := fun q => S.1 _ _ (by simp [KL])
  have o21 : ∀ r q, hI h2 (21, r) q = hI h (21, r) q := fun r q => S.1 _ _ (by simp [KL])
  have o6 : ∀ r q, (r ≠ j ∨ q ≠ 6) → hI h2 (6, r) q = hI h (6, r) q := fun r q hq => S.1 _ _ (by simp [KL]; omega)
  refine i.updL S (vr := Or.inr ⟨fun r hr => ?_, fun q hq => ?_⟩) (vf := Or.inr fun r hr z => ?_)
  · have V := i.vr.1 r hr
    by_cases er : r = j
    · subst er
      refine ⟨⟨n, u, a1, a2, a3, by rw [o6 r 0 (by omega)]; exact a4, by rw [o36]; exact a5, by rw [o6 r 8 (by omega)]; exact a6, by rw [o37]; exact a7, ?_⟩, by rw [o6 r 7 (by omega), o35]; exact V.2.1, by rw [o35]; exact V.2.2.1, fun q hq => ?_⟩
      · have cd := cn_drop (f := fun q => decide (hI h (38, 0) (13 * r + (q + 1)) = 0)) (g := fun q => decide (hI h2 (38, 0) (13 * r + (q + 1)) = 0)) (i := k - 1) (by simp only [show k - 1 + 1 = k by omega, nout]; decide) (by simp only [show k - 1 + 1 = k by omega, e38]; simp) (fun q hq => by simp only [e38]; rw [if_neg (by omega)]) n (by omega)
        rw [e6, a8, cd]
        exact (sb_n (b := 1) (by omega)).trans (by rw [Nat.add_sub_cancel])
      · have w := V.2.2.2 q hq
        rw [o21, o39, e38, e20]
        by_cases eq : q = k
        · subst eq
          rw [if_pos ⟨rfl, rfl⟩, if_pos rfl]
          exact ⟨rfl, Or.inr rfl, w.2.2⟩
        · rw [if_neg (fun z => eq z.2), if_neg (by omega)]; exact w
    · have c38 : ∀ q, q < 13 → hI h2 (38, 0) (13 * r + q) = hI h (38, 0) (13 * r + q) := fun q hq => by rw [e38, if_neg (by omega)]
      obtain ⟨n', u', b1, b2, b3, b4, b5, b6, b7, b8⟩ := V.1
      refine ⟨⟨n', u', b1, b2, b3, by rw [o6 r 0 (Or.inl er)]; exact b4, by rw [o36]; exact b5, by rw [o6 r 8 (Or.inl er)]; exact b6, by rw [o37]; exact b7, ?_⟩, by rw [o6 r 7 (Or.inl er), o35]; exact V.2.1, by rw [o35]; exact V.2.2.1, fun q hq => ?_⟩
      · rw [o6 r 6 (Or.inl er), b8]
        congr 1
        exact cn_congr n' (fun q hq => by simp only [c38 (q + 1) (by omega)])
      · rw [o21, o39, c38 q hq, e20, if_neg (fun z => er z.1)]; exact V.2.2.2 q hq
  · rw [o39, e38, if_neg (by have := i.vr.2; omega)]
    exact i.vr.2 q hq
  · rw [o35] at z
    have er : r ≠ j := fun e => by rw [e, st] at z; exact absurd z (by decide)
    have F := i.vf r hr z
    refine ⟨by rw [S.1 (4, r) 3 (by simp [KL]), o6 r 6 (Or.inl er)]; exact F.1, ?_⟩
    rw [o36]
    exact FinOK_fr (fun q _ _ => by unfold posM; rw [o39]) (S.1 _ _ (by simp [KL])) (fun _ => S.1 _ _ (by simp [KL])) (fun _ => S.1 _ _ (by simp [KL])) F.2
def sc1 (j rk sb : Nat) (has : Bool) (w : xH) (t : Nat) : xH := if hI w (63, 0) t = 0 ∧ fo (hI w) j rk t then (if (hI w (58, 0) t).toNatClampNeg = 48 ∧ has = true then subv w t (if hI w (12, 0) 10 = nI j then 3 else 4) sb else refv w t) else w
def scs (j rk sb : Nat) (has : Bool) (v : xH) : Nat → xH
  | 0 => v
  | t + 1 => sc1 j rk sb has (scs j rk sb has v t) t
def scn (j rk sb : Nat) (has : Bool) (v : xH) : Nat → Int32
  | 0 => 0
  | t + 1 => if hI (scs j rk sb has v t) (63, 0) t = 0 ∧ fo (hI (scs j rk sb has v t)) j rk t then scn j rk sb has v t + 1 else scn j rk sb has v t
theorem fo_uns (i : Inv L xs nr nt v) {t p a b c u j rk : Nat} (k : TkF (hI v) t p a b c u) (hj : j < nr) (f : fo (hI v) j rk t) (st : hI v (35, 0) j = 0) : hI v (43, 0) p = 0 := by
  have hnr := i.vc.1
  have hp := k.p49
  have rc := prc i hp k.there
  rcases i.vq p hp k.there with y | y
  · exfalso
    unfold fo at f
    rw [k.pool, cl_n (by omega)] at f
    rcases f with f | f
    · have q48 := p48 i k f.1
      rw [f.1] at y rc
      rcases f.2 with f | f
      · have e := f.1
        rw [q48.1, nI_inj (by omega) (by omega)] at e
        rw [e, st] at y; exact absurd y.2.1 (by decide)
      · have e := f.1
        rw [q48.2.1, nI_inj (by omega) (by omega)] at e
        rw [e, st] at y; exact absurd y.2.2 (by decide)
    · have e : frp (hI v) p = j := by unfold frp; rw [if_neg f.1]; exact f.2.1
      rw [e, st] at y; exact absurd y.2.1 (by decide)
  · exact y.1
theorem sc1_inv (i : Inv L xs nr nt v) {t j rk sb : Nat} {has : Bool} (ht : t < nt) (hj : j < nr) (st : hI v (35, 0) j = 0) (hsb : has = true → 1 ≤ sb ∧ sb ≤ 12) : Inv L xs nr nt (sc1 j rk sb has v t) ∧ Sm (KK [17, 5, 19, 10, 63, 48, 59, 60] []) v (sc1 j rk sb has v t) := by
  obtain ⟨p, a, b, c, u, k⟩ := tkf i ht
  have hp := k.p49
  unfold sc1
  by_cases f : hI v (63, 0) t = 0 ∧ fo (hI v) j rk t
  · rw [if_pos f]
    have uns := fo_uns i k hj f.2 st
    rw [k.pool, cl_n (by omega)]
    by_cases f2 : p = 48 ∧ has = true
    · rw [if_pos f2]
      have e48 := f2.1
      subst e48
      have hs := hsb f2.2
      have h34 : (if hI v (12, 0) 10 = nI j then 3 else 4) = 3 ∨ (if hI v (12, 0) 10 = nI j then 3 else 4) = 4 := by split <;> simp
      generalize (if hI v (12, 0) 10 = nI j then 3 else 4) = slot at *
      refine ⟨?_, subv_sm h34⟩
      rw [subv_eq k]
      exact i.subst ht k f.1 uns hs.1 hs.2 h34
    · rw [if_neg f2]
      exact ⟨refv_inv i ht k f.1 uns, (refv_sm v t).mono (fun n j e => e.imp (fun e => by simp at e ⊢; omega) id)⟩
  · rw [if_neg f]; exact ⟨i, Sm.rf _ v⟩
theorem scs_inv (i : Inv L xs nr nt v) {j rk sb : Nat} {has : Bool} (hj : j < nr) (st : hI v (35, 0) j = 0) (hsb : has = true → 1 ≤ sb ∧ sb ≤ 12) : ∀ t, t ≤ nt → Inv L xs nr nt (scs j rk sb has v t) ∧ Sm (KK [17, 5, 19, 10, 63, 48, 59, 60] []) v (scs j rk sb has v t)
  | 0, _ => ⟨i, Sm.rf _ v⟩
  | t + 1, ht => by
    obtain ⟨a, b⟩ := scs_inv i (rk := rk) hj st hsb t (by omega)
    obtain ⟨c, d⟩ := sc1_inv a (t := t) (rk := rk) (by omega) hj (by rw [b.1 _ _ (by simp [KK])]; exact st) hsb
    exact ⟨c, b.tr d⟩
/-- promise 6 -/
theorem o_scratch (H : Ok L xs h) (r x : Int32) {F : Int32 → xH → Prop} (hF : Nx L xs (p_M_scratch (12, 0) r x) F) : p_T_scratch (11, 0) r x h F := by
  obtain ⟨nr, nt, i⟩ := H
  have hnr := i.vc.1
  have hnt := i.vc.2.1
  unfold p_T_scratch
  refine ⟨rfl, w_findRace i (fun hno => ?_) (fun j hj e => ?_)⟩
  · unfold p_T_refuseRunner
    refine ⟨fun z => absurd rfl z, fun _ => ⟨fun _ => hF _ _ i.vs (fun G hG => ?_), fun z => absurd rfl z⟩⟩
    unfold p_M_scratch
    exact ⟨rfl, w_barsNo i.md hno ⟨fun z => absurd z (by decide), fun _ => hG h ⟨nr, nt, i⟩⟩⟩
  subst e
  obtain ⟨n, sb, a1, a2, a3, a4, a5, a6, a7, a8⟩ := VR_run i.vr hj
  have vr := i.vr.1 j hj
  have sr := i.sr.1 j hj
  refine w_refuseRunner i hj a4 a2 (fun c => ⟨fun z => absurd z (nz 5 j), fun _ => ⟨fun z => absurd z (by decide), fun _ => hF _ _ i.vs (fun G hG => ?_)⟩⟩) (fun k k1 k2 e c => ⟨fun z => absurd z (nz 5 j), fun _ => ⟨fun z => absurd z (by decide), fun _ => hF _ _ i.vs (fun G hG => ?_)⟩⟩) (fun k k1 k2 e c c2 => ⟨fun z => absurd z (nz 5 j), fun _ => ⟨fun z => absurd z (by decide), fun _ => hF _ _ i.vs (fun G hG => ?_)⟩⟩) (fun k k1 k2 e c c2 => ⟨fun z => absurd z (nz 5 j), fun _ => ⟨fun _ => ⟨rfl, ?_⟩, fun z => absurd rfl z⟩⟩)
  · unfold p_M_scratch
    exact ⟨rfl, w_bars i.md hj a5 a2 (fun _ => ⟨fun z => absurd z (by decide), fun _ => hG h ⟨nr, nt, i⟩⟩) (fun k k1 k2 e _ => absurd e (c k k1 k2)) (fun k k1 k2 e _ => absurd e (c k k1 k2))⟩
  · unfold p_M_scratch
    subst e
    refine ⟨rfl, w_bars i.md hj a5 a2 (fun z => absurd rfl (z k k1 k2)) (fun _ _ _ _ _ => ⟨fun z => absurd z (by decide), fun _ => hG h ⟨nr, nt, i⟩⟩) (fun k' k1' k2' e' c' => ?_)⟩
    rw [nI_inj (by omega) (by omega)] at e'
    rw [← e', c] at c'
    exact absurd c' (by decide)
  · unfold p_M_scratch
    subst e
    refine ⟨rfl, w_bars i.md hj a5 a2 (fun z => absurd rfl (z k k1 k2)) (fun k' k1' k2' e' c' => ?_) (fun _ _ _ _ _ => ⟨fun _ => ?_, fun z => absurd (by decide) z⟩)⟩
    · rw [nI_inj (by omega) (by omega)] at e'
      rw [← e', c] at c'
      exact absurd c' (by decide)
    · rw [mR1 i.m, mS1 i.m, cl_n (by omega)]
      exact ⟨rfl, in_n (by omega) (by omega), fun z => absurd z c2, fun _ => hG h ⟨nr, nt, i⟩⟩
  subst e
  unfold p_R_takeOut
  rw [sr.2.1, sr.2.2.2.2.2.2.2.1, cl_n (by omega)]
  refine ⟨rfl, rfl, in_n (by omega) (by omega), fun h4 q4 h9 q9 => ⟨nt + 1, ?_⟩⟩
  have e46 : hI h4 (6, j) 6 = hI h (6, j) 6 := by rw [q4, hI_sI, if_neg (by simp)]
  rw [e46, q4] at q9
  have iv := i.out hj k1 (by rw [a5, cl_n (by omega)]; exact k2) c c2
  have sc0 : SC (outV h j k) h9 := by rw [q9]; exact (((SC.rf h).si _ _ _).si _ _ _).om (Or.inl (by simp)) _ _
  have sC0 : Sm KC h h9 := by rw [q9]; exact ((Sm.rf _ h).si _ (by simp [KC])).si _ (by simp [KC])
  have K0 : Sm (KL [((20, j), k), ((6, j), 6), ((38, 0), 13 * j + k)]) h (outV h j k) := (((Sm.rf _ h).si _ (by simp [KL])).si _ (by simp [KL])).si _ (by simp [KL])
  have hv : ∀ g, SM h g → SM (outV h j k) (sI g (38, 0) (13 * j + k) 1) := fun g s => ((s.oc ⟨by simp, by simp⟩ _ _).oc ⟨by simp, by simp⟩ _ _).si _ _ _
  have v35 : hI (outV h j k) (35, 0) j = 0 := by rw [K0.1 _ _ (by simp [KL])]; exact c2
  have v36 : hI (outV h j k) (36, 0) j = nI n := by rw [K0.1 _ _ (by simp [KL])]; exact a5
  have v37 : hI (outV h j k) (37, 0) j = nI sb := by rw [K0.1 _ _ (by simp [KL])]; exact a7
  generalize outV h j k = v0 at *
  generalize ehas : decide (sb ≠ 0 ∧ hI v0 (38, 0) (13 * j + sb) = 0) = has
  have has1 : has = true ↔ (sb ≠ 0 ∧ hI v0 (38, 0) (13 * j + sb) = 0) := by rw [← ehas]; simp
  have all := scs_inv iv (rk := k) (sb := sb) (has := has) hj v35 (fun z => by have := (has1.mp z).1; omega)
  have fin : ∀ h', SC (scs j k sb has v0 nt) h' → Sm KC h h' → F (scn j k sb has v0 nt) h' := by
    intro h' sc sC
    refine hF _ _ (i.vs.fr sC (fun n j k => k.2.2)) (fun G hG => ?_)
    have d := i.md.fr sC
    have smh := SM.kc sC
    unfold p_M_scratch
    refine ⟨rfl, w_bars d hj (by rw [smh.i 36]; exact a5) a2 (fun z => absurd rfl (z k k1 k2)) (fun k' k1' k2' e' c' => ?_) (fun _ _ _ _ _ => ⟨fun _ => ?_, fun z => absurd (by decide) z⟩)⟩
    · rw [nI_inj (by omega) (by omega)] at e'
      rw [← e', smh.i 38, c] at c'
      exact absurd c' (by decide)
    rw [mR1 d.1, mS1 d.1, mR4 d.1, mS4 d.1, ix13, cl_n (by omega), cl_n (by omega), smh.i 35]
    refine ⟨rfl, in_n (by omega) (by omega), fun _ => ⟨rfl, in_n (by omega) (by omega), fun h10 q10 => ?_⟩, fun z => absurd c2 z⟩
    have m10 : ShM (hS h10) (hR h10) := by rw [q10]; exact d.1
    have sm10 : SM v0 h10 := by rw [q10]; exact hv h' smh
    have sc10 : SC (scs j k sb has v0 nt) h10 := by rw [q10]; exact sc.wm (Or.inl (by simp)) _ _
    rw [mR3 m10, mS3 m10, sm10.i 37, v37]
    refine ⟨rfl, in_n (by omega) (by omega), fun v14 e14 => ?_⟩
    subst e14
    have L78 : ∀ hs : Int32, (hs = 0 ↔ ¬ has = true) → ∃ f86, p_M_scratch_L78 (12, 0) (nI j) (nI k) (nI sb) hs (fun (x84 : Int32) (h85 : xH) => G x84 h85) G f86 (0 : Int32) (0 : Int32) h10 := by
      intro hs hh
      refine ⟨nt + 1, ?_⟩
      have key2 : ∀ (m b : Nat) (g' : xH), b + m = nt → SM (scs j k sb has v0 b) g' → SC (scs j k sb has v0 nt) g' → p_M_scratch_L78 (12, 0) (nI j) (nI k) (nI sb) hs (fun (x84 : Int32) (h85 : xH) => G x84 h85) G (m + 1) (scn j k sb has v0 b) (nI b) g' := by
        intro m
        induction m with
        | zero =>
          intro b g' hb sm sc
          have eb : b = nt := by omega
          subst eb
          have ib := (all b (by omega)).1
          unfold p_M_scratch_L78
          rw [sm.i 12, ib.vc.2.2.2.2.2]
          refine ⟨rfl, fun _ => hG g' ⟨nr, b, ?_⟩, fun c => absurd (by rw [le_nn (by omega) (by omega)]; omega) c⟩
          rw [SC.eq sc sm]; exact ib
        | succ m ih =>
          intro b g' hb sm sc
          obtain ⟨ib, Kb⟩ := all b (by omega)
          obtain ⟨p, ta, tb, tc, u, kk⟩ := tkf ib (t := b) (by omega)
          have hp := kk.p49
          have es : scs j k sb has v0 (b + 1) = sc1 j k sb has (scs j k sb has v0 b) b := rfl
          have en : scn j k sb has v0 (b + 1) = if hI (scs j k sb has v0 b) (63, 0) b = 0 ∧ fo (hI (scs j k sb has v0 b)) j k b then scn j k sb has v0 b + 1 else scn j k sb has v0 b := rfl
          unfold sc1 at es
          refine w_mscr ib sm (has := has = true) (by omega) kk hj (by omega) hh (fun f => ?_) (fun f1 f2 f3 => ?_) (fun f1 f2 f3 f4 slot eslot => ?_)
          · rw [if_neg f] at es en
            have := ih (b + 1) g' (by omega) (by rw [es]; exact sm) sc
            rw [en] at this; exact this
          · rw [if_pos ⟨f1, f2⟩, kk.pool, cl_n (by omega), if_neg f3, refv_eq kk] at es
            rw [if_pos ⟨f1, f2⟩] at en
            have := ih (b + 1) _ (by omega) (by rw [es]; exact eM_sm sm _ _ _ _ _ _ _ _ _) (eM_wc sc b p 2 2 (skI (hI (scs j k sb has v0 b)) b))
            rw [en] at this; exact this
          · subst f3
            rw [if_pos ⟨f1, f2⟩, kk.pool, if_pos ⟨rfl, f4⟩, ← eslot, subv_eq kk] at es
            rw [if_pos ⟨f1, f2⟩] at en
            have := ih (b + 1) (sI g' (56 + slot, 0) b (nI sb)) (by omega) (by rw [es]; exact subC_sm sm _ _ _ _ _ _) (sc.wm (Or.inl (by simp; omega)) _ _)
            rw [en] at this; exact this
      exact key2 nt 0 h10 (by omega) sm10 sc10
    have n0 : nI sb = (0 : Int32) ↔ sb = 0 := nI_inj (b := 0) (by omega) (by omega)
    have e13 : (13 : Int32) * nI j + nI sb = nI (13 * j + sb) := ix13
    rw [n0, mR4 m10, mS4 m10, e13, cl_n (by omega), sm10.i 38]
    refine ⟨fun z => L78 0 ⟨fun _ y => (has1.mp y).1 z, fun _ => rfl⟩, fun z => ⟨rfl, in_n (by omega) (by omega), fun y => L78 0 ⟨fun _ x => y (has1.mp x).2, fun _ => rfl⟩, fun y => L78 1 ⟨fun x => absurd x (by decide), fun x => absurd (has1.mpr ⟨z, y⟩) x⟩⟩⟩
  have key : ∀ (m a : Nat) (h' : xH), a + m = nt → SC (scs j k sb has v0 a) h' → Sm KC h h' → p_T_scratch_L37 (11, 0) (nI k) (6, j) (fun x h => F x h) F (m + 1) (scn j k sb has v0 a) (nI a) h' := by
    intro m
    induction m with
    | zero =>
      intro a h' ha sc sC
      have ea : a = nt := by omega
      subst ea
      have ib := (all a (by omega)).1
      unfold p_T_scratch_L37
      rw [sc.i 11 0 11, ib.vc.2.2.2.2.1]
      exact ⟨rfl, fun _ => fin h' sc sC, fun c => absurd (by rw [le_nn (by omega) (by omega)]; omega) c⟩
    | succ m ih =>
      intro a h' ha sc sC
      obtain ⟨ib, Kb⟩ := all a (by omega)
      obtain ⟨p, ta, tb, tc, u, kk⟩ := tkf ib (t := a) (by omega)
      have hp := kk.p49
      have tr := tkr ib (by omega) kk
      have es : scs j k sb has v0 (a + 1) = sc1 j k sb has (scs j k sb has v0 a) a := rfl
      have en : scn j k sb has v0 (a + 1) = if hI (scs j k sb has v0 a) (63, 0) a = 0 ∧ fo (hI (scs j k sb has v0 a)) j k a then scn j k sb has v0 a + 1 else scn j k sb has v0 a := rfl
      unfold sc1 at es
      unfold p_T_scratch_L37
      rw [sc.2.1, sc.2.2, sc.i 11 0 11, ib.vc.2.2.2.2.1, xR_11_0_2 ib.x, xS_29_0 ib.x, cl_n (by omega), tr.1, sc.i 10 a 6, kk.cls.2.2.2.2.2]
      refine ⟨rfl, fun z => ?_, fun _ => ⟨rfl, in_n (by omega) (by omega), rfl, fun f y hy => ?_, fun f1 => ⟨in_n (by omega) (by omega), w_forC ib sc (by omega) kk hj (by omega) (fun f2 => ⟨fun _ y hy => ?_, fun z => absurd rfl z⟩) (fun f2 => ⟨fun z => absurd z (by decide), fun _ => ?_⟩)⟩⟩⟩
      · rw [le_nn (by omega) (by omega)] at z; omega
      · rw [if_neg (fun z => f z.1)] at es en
        rw [hy, nI_1]
        have := ih (a + 1) h' (by omega) (by rw [es]; exact sc) sC
        rw [en] at this; exact this
      · rw [if_neg (fun z => f2 z.2)] at es en
        rw [hy, nI_1]
        have := ih (a + 1) h' (by omega) (by rw [es]; exact sc) sC
        rw [en] at this; exact this
      · rw [if_pos ⟨f1, f2⟩] at es en
        rw [sc.2.1, sc.2.2, xR_11_0_2 ib.x, xS_29_0 ib.x, tr.1]
        have k36 : hI (scs j k sb has v0 a) (36, 0) j = nI n := by rw [Kb.1 _ _ (by simp [KK])]; exact v36
        have k37 : hI (scs j k sb has v0 a) (37, 0) j = nI sb := by rw [Kb.1 _ _ (by simp [KK])]; exact v37
        have k38 : ∀ q, hI (scs j k sb has v0 a) (38, 0) q = hI v0 (38, 0) q := fun q => Kb.1 _ _ (by simp [KK])
        refine ⟨rfl, in_n (by omega) (by omega), rfl, w_lose ib sc (by omega) kk hj k37 (by rw [k36, cl_n (by omega)]; exact a3) f2 (fun f3 w hw y hy => ?_) (fun f3 f4 f5 slot eslot w hw y hy => ?_)⟩
        · rw [k38] at f3
          rw [kk.pool, cl_n (by omega), if_neg (fun z => f3 ⟨z.1, has1.mp z.2⟩), refv_eq kk] at es
          rw [hw, hy, nI_1]
          have := ih (a + 1) (eC h' a p (lin (kf p) ta tb tc) 2 (nI u) 2 (skI (hI (scs j k sb has v0 a)) a)) (by omega) (by rw [es]; exact eC_sc sc _ _ _ _ _ _ _ _ _) (sC.tr (eC_kc _ _ _ _ _ _ _ _))
          rw [en] at this; exact this
        · rw [k38] at f5
          subst f3
          rw [kk.pool, if_pos ⟨rfl, has1.mpr ⟨f4, f5⟩⟩, ← eslot, subv_eq kk] at es
          rw [hw, hy, nI_1]
          have := ih (a + 1) _ (by omega) (by rw [es]; exact subC_sc sc _ _ _ _ _ _) (sC.tr (subC_kc _ _ _ _ _ _ _))
          rw [en] at this; exact this
  exact key nt 0 h9 (by omega) sc0 sC0
end Scratch2
