section RkFig
variable {qq : Prop} {L : Nat} {xs : Nat → Int32} {nr nt : Nat} {v h g : xH}
/-- how many run in a race -/
def rnOf (v : xH) (r : Nat) : Nat := cn (fun k => decide (hI v (38, 0) (13 * r + (k + 1)) = 0)) (hI v (36, 0) r).toNatClampNeg
theorem rn_of (i : InvQ qq L xs nr nt v) {r : Nat} (hr : r < nr) : hI v (6, r) 6 = nI (rnOf v r) ∧ rnOf v r ≤ 12 := by
  obtain ⟨n, u, a1, a2, a3, a4, a5, a6, a7, a8⟩ := VR_run i.vr hr
  unfold rnOf
  rw [a5, cl_n (by omega)]
  exact ⟨a8, Nat.le_trans (cn_le _ _) a2⟩
theorem w_rkI (i : InvQ qq L xs nr nt v) (s : SC v h) {p : Nat} (hp : p < 49) (there : hI v (40, 0) p = 1) {lu un de ca : Nat} (b : Bk v nt p lu un de ca) {f cnt f2 cnt2 rn : Nat} {ru ps ru2 ps2 at1 at2 : Nat → Nat} (F : FiH h f cnt ru ps) (F2 : FiH h f2 cnt2 ru2 ps2) (hr : rn ≤ 12) (e3 : hI h (4, f) 3 = nI rn) (A : FA cnt ru ps at1) (A2 : kf p = 4 → FA cnt2 ru2 ps2 at2) {Q : xH → Prop}
    (q : ∀ h', Sm K9 h h' → RkR h' (kf p) (lls p) (lvl (hI v) nt p) (Wc (kf p) rn at1 at2) (vd (kf p) rn) (nI lu) (nI un) (nI de) (nI ca) → Q h') : p_Se_reckon (8, 0) (5, p) (4, f) (4, f2) h Q := by
  obtain ⟨b1, b2, b3, b4, b5, b6, b7, b8, b9, b10⟩ := b
  have pr := plr i hp there
  have pk := plk i hp there
  have x := SC.x i s
  have vv := i.vv p hp there
  have bk := ((i.vp p hp).1 there).2.2.2.2.2.2.2.2.2.1
  have P : PH h p (lvl (hI v) nt p) := ⟨by rw [s.i 5 p 1]; exact pk.2.1, by rw [s.2.2]; exact pr.2.2.2.1, by rw [s.2.1]; exact pr.2.2.2.2.2.2.1, fun l hl => by rw [s.i 17 p l]; exact vv.2 l hl, xR_8_0_0 x, xR_8_0_1 x, xS_24_0 x, xS_25_0 x⟩
  refine w_reckon P (lvl_ub i p) F F2 hr e3 (by rw [s.i 5 p 9, vv.1, b1]) (by rw [s.i 5 p 5, pk.2.2.2.1, b2]) (by rw [s.i 5 p 4, pk.2.2.1, b3]) (by rw [s.2.2]; exact pr.2.2.2.2.2.1) (by rw [s.2.1]; exact pr.2.2.2.2.2.2.2.2) (by rw [s.i 19 p 4, bk.2.2.2.2.1, b4]) (fun l hl h0 => ?_) q
  obtain ⟨a, b, c, t, e⟩ := lvl_trp i hp h0
  rw [← e, Wc_lin kf_le t, vs_wn A A2 kf_le t]
/-- what lies in the model once it has figured -/
def FgR (g' : xH) (k M : Nat) (U : Nat → Nat) (W : Nat → Bool) (F G : Nat) (gl : Nat → Nat) (lu un de ci : Int32) : Prop :=
  hI g' (12, 0) 41 = nI (zN M U W) ∧ hI g' (12, 0) 43 = zT lu un de ∧ hI g' (12, 0) 44 = zE lu un de ci ∧ (zN M U W = 0 → hI g' (12, 0) 45 = 0) ∧ (zN M U W ≠ 0 → hI g' (12, 0) 45 = zU k M U W lu un de ci ∧ hI g' (12, 0) 46 = zC k M U W lu un de ci ∧ ∀ x, F ≤ x → x < G → hI g' (74, 0) x = if W (gl x) = true then zD k M U W lu un de ci (gl x) else 0)
theorem w_fgI (i : InvQ qq L xs nr nt v) (s : SM v g) {p : Nat} (hp : p < 49) (there : hI v (40, 0) p = 1) {lu un de ca : Nat} (b : Bk v nt p lu un de ca) {F G : Nat} {gl at1 at2 : Nat → Nat} (r : GR0 g (hI v) p nt F G gl) (hG : G ≤ 200) (A1 : AtH g (67, 0) at1) (A2 : kf p = 4 → AtH g (68, 0) at2) {Q : xH → Prop}
    (q : ∀ g', Sm KF g g' → FgR g' (kf p) (lls p) (lvl (hI v) nt p) (Wc (kf p) (rnOf v (frp (hI v) p)) at1 at2) F G gl (nI lu) (nI un) (nI de) (nI ca) → Q g') : p_M_figure (12, 0) (nI p) (nI F) (nI G) g Q := by
  have b' := b
  obtain ⟨b1, b2, b3, b4, b5, b6, b7, b8, b9, b10⟩ := b
  have m := SM.m i s
  have rc := prc i hp there
  have hnr := i.vc.1
  refine w_figure m hp r hG (fun l => (lvl_ub i p).1 l) (by rw [s.i 42]; exact b2) (by rw [s.i 41]; exact b3) (by rw [s.i 50]; exact b4) A1 A2 (fun hk g' s' => ?_) (fun a b c t => Wc_lin kf_le t) (by rw [lvl_psm i hp, b1]) (fun _ => bk_zE b') (fun _ => bk_zA i hp b' _) (fun g' s' h1 h2 h3 h4 h5 => q g' s' ⟨h1, h2, h3, h4, h5⟩)
  have n48 : p ≠ 48 := fun e => by have := rc.2.2.2.mp e; omega
  have fr : frp (hI v) p = p / 4 := by unfold frp; rw [if_neg n48]
  have rr := rn_of i rc.1
  obtain ⟨n, u, a1, a2, a3, a4, a5, -⟩ := VR_run i.vr rc.1
  refine ⟨rr.2, fun Q q => ?_⟩
  have o : ∀ k j, k ≠ 12 → k ≠ 74 → hI g' (k, 0) j = hI g (k, 0) j := fun k j k1 k2 => s'.1 _ _ (fun z => by
    rcases z with z | z
    · exact k1 (congrArg Prod.fst z.1)
    · exact k2 (congrArg Prod.fst z))
  refine w_running (by rw [s'.2.1, s'.2.2]; exact m) (j := p / 4) (n := n) (by omega) (by rw [o 36 _ (by omega) (by omega), s.i 36, ← fr]; exact a5) a2 ?_
  have e : (fun k => decide (hI g' (38, 0) (13 * (p / 4) + (k + 1)) = 0)) = (fun k => decide (hI v (38, 0) (13 * (p / 4) + (k + 1)) = 0)) := funext (fun k => by rw [o 38 _ (by omega) (by omega), s.i 38])
  have e2 : rnOf v (frp (hI v) p) = cn (fun k => decide (hI v (38, 0) (13 * (p / 4) + (k + 1)) = 0)) n := by
    unfold rnOf; rw [a5, cl_n (by omega), fr]
  rw [e, ← e2]
  exact q
end RkFig
