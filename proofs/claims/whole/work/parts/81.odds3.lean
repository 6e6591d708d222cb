section Odds3
variable {L : Nat} {xs : Nat → Int32} {nr nt : Nat} {v h g : xH}
theorem kx_fi : ∀ n j, KFi 99 n j → KSc n j := fun n j z => Or.inr (Or.inl (by rcases z with rfl | rfl | rfl <;> simp))
theorem kx_9 : ∀ n j, K9 n j → KSc n j := fun n j z => Or.inl (by rcases z with ⟨rfl, -⟩ | rfl | rfl <;> simp)
theorem kx_G : ∀ n j, KG n j → KSc n j := fun n j z => by
  rcases z with ⟨rfl, e⟩ | rfl | rfl | rfl | rfl
  · exact Or.inr (Or.inr ⟨rfl, Or.inl e⟩)
  all_goals exact Or.inl (by simp)
theorem kx_F : ∀ n j, KF n j → KSc n j := fun n j z => by
  rcases z with ⟨rfl, e⟩ | rfl
  · exact Or.inr (Or.inr ⟨rfl, Or.inr e⟩)
  · exact Or.inl (by simp)
theorem kx_67 : ∀ (n : xN) (j : Nat), n = (67, 0) → KSc n j := fun n j z => Or.inl (by simp [z])
/-- the class's scratch alone -/
def KSk : xN → Nat → Prop := fun n j => n.1 ∈ [8, 24, 25] ∨ ((n.1 = 4 ∨ n.1 = 15 ∨ n.1 = 16) ∧ n.2 = 99)
theorem SM.sk {h' : xH} (s : Sm KSk h h') : SM h h' := ⟨fun n j hk => s.1 n j (fun z => by
  rcases z with z | z
  · simp at z; omega
  · omega), s.2.1, s.2.2⟩
theorem ksk_x : ∀ n j, KSk n j → KSc n j := fun n j z => by
  rcases z with z | z
  · exact Or.inl (by simp at z ⊢; omega)
  · exact Or.inr (Or.inl z)
theorem kk_fi : ∀ n j, KFi 99 n j → KSk n j := fun n j z => Or.inr (by rcases z with rfl | rfl | rfl <;> simp)
theorem kk_9 : ∀ n j, K9 n j → KSk n j := fun n j z => Or.inl (by rcases z with ⟨rfl, -⟩ | rfl | rfl <;> simp)
theorem uns_of (i : Inv L xs nr nt v) {p : Nat} (hp : p < 49) (there : hI v (40, 0) p = 1) (st : ¬ hI v (35, 0) (frp (hI v) p) = 2) : ¬ hI v (43, 0) p = 1 := fun e => by
  rcases i.vq p hp there with z | z
  · exact st z.2.1
  · exact absurd (z.1.symm.trans e) (by decide)
theorem oA_0 {k M l : Nat} {U : Nat → Nat} {W : Nat → Bool} {lu un de ci : Int32} (z : ¬ (W l = true ∧ 0 < U l)) : oA k M U W lu un de ci l = 0 := if_neg z
/-- promise 17 -/
theorem o_odds (H : Ok L xs h) (x a b c : Int32) {F : Int32 → xH → Prop} (hF : Nx L xs (p_M_odds (12, 0) x a b c) F) : p_T_odds (11, 0) x a b c h F := by
  obtain ⟨nr, nt, i⟩ := H
  have hnt := i.vc.2.1
  refine w_oddsC i (fun z => hF _ _ i.vs (fun G hG => w_oddsM i (SM.rf h) (fun _ => hG h ⟨nr, nt, i⟩) (fun p h' t' e => absurd e (z p h' t')) (fun p h' t' e => absurd e (z p h' t')) (fun p h' t' e => absurd e (z p h' t')) (fun p h' t' e => absurd e (z p h' t')) (fun p h' t' e => absurd e (z p h' t'))))
    (fun p hp there e z => hF _ _ i.vs (fun G hG => by subst e; exact w_oddsMp i (SM.rf h) hp there (fun _ => hG h ⟨nr, nt, i⟩) (fun y => absurd y z) (fun y => absurd y z) (fun y => absurd y z) (fun y => absurd y z)))
    (fun p hp there e g z => hF _ _ i.vs (fun G hG => by subst e; exact w_oddsMp i (SM.rf h) hp there (fun y => absurd g y) (fun _ _ => hG h ⟨nr, nt, i⟩) (fun _ y => absurd z y) (fun _ y => absurd z y) (fun _ y => absurd z y)))
    (fun p hp there e g nd z => hF _ _ i.vs (fun G hG => by subst e; exact w_oddsMp i (SM.rf h) hp there (fun y => absurd g y) (fun _ y => absurd y nd) (fun _ _ _ => hG h ⟨nr, nt, i⟩) (fun _ _ y => absurd z y) (fun _ _ y => absurd z y)))
    (fun p hp there e g nd ng z => hF _ _ i.vs (fun G hG => by subst e; exact w_oddsMp i (SM.rf h) hp there (fun y => absurd g y) (fun _ y => absurd y nd) (fun _ _ y => absurd y ng) (fun _ _ _ _ => hG h ⟨nr, nt, i⟩) (fun _ _ _ y => absurd z y)))
    (fun p p48 there e g nd ng st => ?_)
  subst e
  have hp : p < 49 := by omega
  have rc := prc i hp there
  have hk := kf_le (p := p)
  have k4 : kf p ≠ 4 := fun e => by have := rc.2.2.2.mpr e; omega
  have fr : frp (hI h) p = p / 4 := by unfold frp; rw [if_neg (by omega)]
  have hr : p / 4 < nr := by rw [← fr]; exact rc.1
  obtain ⟨a', b', c', rfl, rfl, rfl, a1, b1, a2, b2, c2, a3, b3, c3⟩ := g3_n i hr g
  obtain ⟨ab, ac, bc⟩ := dup_n a3 b3 c3 nd
  have rr := rn_of i hr
  obtain ⟨un, de, ca, B⟩ := bk i hp there (uns_of i hp there (by rw [fr]; exact st))
  have l2 := lls_le (p := p)
  refine w_suppC i.x rr.1 a1 a3 b1 b3 c3 ab ac bc (fun h26 cnt ru ps S26 e3 Fi A => ?_)
  show _ ∧ _
  have Y26 : Sm KSk h h26 := S26.mono kk_fi
  have X26 := Y26.mono ksk_x
  have i26 := i.scr X26
  have E26 := scr_eq X26
  rw [xR_11_0_7 i26.x, xR_11_0_6 i26.x]
  refine ⟨rfl, w_rkI i26 (SC.rf h26) hp (by rw [E26.2.2.2.2.2.2.1]; exact there) (E26.2.2.2.2.1 _ _ _ _ _ _ B) (at2 := fun _ => 0) Fi Fi rr.2 e3 A (fun e => absurd e k4) (fun h28 S28 rk => ?_)⟩
  show _ ∧ _
  rw [E26.1] at rk
  have Y28 : Sm KSk h h28 := Y26.tr (S28.mono kk_9)
  have X28 := Y28.mono ksk_x
  have i28 := i.scr X28
  have E28 := scr_eq X28
  refine ⟨rfl, w_lineOf (k := kf p) rfl hk (plk i28 hp (by rw [E28.2.2.2.2.2.2.1]; exact there)).2.1 a3 b3 ?_⟩
  show _ ∧ _
  rw [xR_11_0_7 i28.x]
  generalize hU : lvl (hI h) nt p = U at rk
  generalize hW : Wc (kf p) (rnOf h (p / 4)) (sat a' b' c') (fun _ => 0) = W at rk
  have ub := lvl_ub i p
  rw [hU] at ub
  have hl : lin2 (kf p) a' b' c' < lls p := lin2_lt a3 b3 c3
  obtain ⟨ln, en, -⟩ := id rk
  have hN : zN (lls p) U W ≤ 200 := ub.2 ln _ _ en (fun l _ z => z.2)
  have n0 : zN (lls p) U W = 0 → ¬ (W (lin2 (kf p) a' b' c') = true ∧ 0 < U (lin2 (kf p) a' b' c')) := fun z y => by
    obtain ⟨i, hi, -⟩ := en.2.2 _ hl y
    omega
  have hv : vd (kf p) (rnOf h (p / 4)) → ∀ l, W l = true → 0 < U l → False := fun w l y z => by
    rw [← hU] at z
    obtain ⟨A, B, C, t, e⟩ := lvl_trp i hp z
    rw [← hW, ← e, Wc_lin hk t] at y
    exact y.1 w
  refine ⟨rfl, w_divOf rk i28.x hN l2 hl (fun w => hv w _) (hF _ _ i28.vs (fun G hG => ?_))⟩
  refine w_oddsMp i (SM.sk Y28) p48 there (fun y => absurd g y) (fun _ y => absurd y nd) (fun _ _ y => absurd y ng) (fun _ _ _ y => absurd y st) (fun _ _ _ _ => w_suppM i28.m a3 b3 c3 (fun g31 S31 A31 h32 q32 => ?_))
  have X31 := X28.tr (S31.mono kx_67)
  have X32 : Sm KSc h h32 := by rw [q32]; exact X31.si _ (Or.inr (Or.inr ⟨rfl, Or.inl rfl⟩))
  have i32 := i.scr X32
  have E32 := scr_eq X32
  have t200 : tkc (hI h32) nt p ≤ nt := cn_le _ _
  refine w_group i32 (SM.rf h32) hp (F := 0) (by rw [q32, hI_sI, if_pos ⟨rfl, rfl⟩]; rfl) (by omega) (fun g34 N gl S34 _ r34 => ?_)
  show p_M_figure _ _ _ _ _ _
  rw [r34.1]
  have X34 := X32.tr (S34.mono kx_G)
  have i34 := i.scr X34
  have E34 := scr_eq X34
  have hN2 : N ≤ 200 := r34.G (nt := nt) (by omega) (Nat.le_refl _)
  have r34' := r34.cg (E34.1.trans E32.1.symm)
  have A34 : AtH g34 (67, 0) (sat a' b' c') := ⟨rfl, mS33 i34.m, fun k hk => by
    rw [S34.1 _ _ (by simp [KG]), q32, hI_sI, if_neg (by simp)]
    exact A31.2.2 k hk⟩
  refine w_fgI i34 (SM.rf g34) hp (by rw [E34.2.2.2.2.2.2.1]; exact there) (E34.2.2.2.2.1 _ _ _ _ _ _ B) (F := 0) (at2 := fun _ => 0) r34'.to0 hN2 A34 (fun e => absurd e k4) (fun g35 S35 fg => ?_)
  show p_M_kindOf _ _ _
  rw [E34.1, E34.2.2.1, E34.2.2.2.1, fr, hU, hW] at fg
  clear r34
  obtain ⟨r1, r2, r3, r4⟩ := r34'
  rw [E34.1, hU] at r3 r4
  have X35 := X34.tr (S35.mono kx_F)
  have i35 := i.scr X35
  have fin : G (oA (kf p) (lls p) U W (nI (lvu (hI h) nt p)) (nI un) (nI de) (nI ca) (lin2 (kf p) a' b' c')) g35 := hG g35 ⟨nr, nt, i35⟩
  obtain ⟨n0', n1', n2', n3', n4'⟩ := nk hk
  have e35 : hI g35 (12, 0) 35 = nI N := by rw [S35.1 _ _ (by simp [KF])]; exact r1
  have o35 : ∀ k x, 70 ≤ k → k ≤ 73 → hI g35 (k, 0) x = hI g34 (k, 0) x := fun k x h1 h2 => S35.1 _ _ (fun z => by
    rcases z with z | z
    · have := congrArg Prod.fst z.1; simp at this; omega
    · have := congrArg Prod.fst z; simp at this; omega)
  have sr : ∀ fa fb fc : Nat, fa ≤ 12 → fb ≤ 12 → fc ≤ 12 → (kf p < 2 → fb = 0) → (kf p ≠ 3 → fc = 0) → lin (kf p) fa fb fc = lin2 (kf p) a' b' c' → ∃ f, p_M_odds_L232 (12, 0) (nI fa) (nI fb) (nI fc) (fun h => G 0 h) G f 0 g35 := fun fa fb fc ha hb hc q1 q3 el => by
    refine w_srch i35.m e35 hN2 fg.1 (by omega) (fun z => ?_) (fun x hx nz za zb zc => ?_)
    · have : ¬ (W (lin2 (kf p) a' b' c') = true ∧ 0 < U (lin2 (kf p) a' b' c')) := fun y => by
        rcases z with z | z
        · exact n0 z y
        · obtain ⟨x, hx, ex⟩ := r3.2.2 _ hl y.2
          replace ex : gl (0 + x) = lin2 (kf p) a' b' c' := ex
          rw [Nat.zero_add] at ex
          obtain ⟨A, B, C, t, e1, e2, e3, e4, -⟩ := r4 x (by omega) (by omega)
          have := lin_in hk t.1 t.2.1 t.2.2.1 ha hb hc (fun k => ⟨t.2.2.2.2.1 k, q1 k⟩) (fun k => ⟨t.2.2.2.2.2.2.1 k, q3 k⟩) (e1.trans (ex.trans el.symm))
          refine z x (by omega) ⟨?_, ?_, ?_⟩
          · rw [o35 70 x (by omega) (by omega), e2, this.1]
          · rw [o35 71 x (by omega) (by omega), e3, this.2.1]
          · rw [o35 72 x (by omega) (by omega), e4, this.2.2]
      rw [oA_0 this] at fin
      exact fin
    · obtain ⟨A, B, C, t, e1, e2, e3, e4, -⟩ := r4 x (by omega) hx
      rw [o35 70 x (by omega) (by omega), e2, nI_inj (by have := t.1; omega) (by omega)] at za
      rw [o35 71 x (by omega) (by omega), e3, nI_inj (by have := t.2.1; omega) (by omega)] at zb
      rw [o35 72 x (by omega) (by omega), e4, nI_inj (by have := t.2.2.1; omega) (by omega)] at zc
      have ex : gl x = lin2 (kf p) a' b' c' := by rw [← el, ← za, ← zb, ← zc, e1]
      have pos : 0 < U (gl x) := by
        have : 0 < U (gl (0 + x)) := (r3.1 x (by omega)).2
        rw [Nat.zero_add] at this; exact this
      rw [(fg.2.2.2.2 nz).2.2 x (by omega) hx, ex]
      rw [ex] at pos
      unfold oA at fin
      by_cases w : W (lin2 (kf p) a' b' c') = true
      · rw [if_pos ⟨w, pos⟩] at fin
        rw [if_pos w]; exact fin
      · rw [if_neg (fun y => w y.1)] at fin
        rw [if_neg w]; exact fin
  have j213 : ∀ fa fb : Nat, fa ≤ 12 → fb ≤ 12 → (kf p < 2 → fb = 0) → (∀ fc, (kf p ≠ 3 → fc = 0) → (kf p = 3 → fc = c') → lin (kf p) fa fb fc = lin2 (kf p) a' b' c') → p_M_odds_j213 (nI fb) (12, 0) (nI c') (nI (kf p)) (nI fa) g35 G := fun fa fb ha hb q1 el => by
    unfold p_M_odds_j213
    rw [n3']
    exact ⟨fun z => sr fa fb 0 ha hb (by omega) q1 (fun _ => rfl) (el 0 (fun _ => rfl) (fun y => absurd y z)), fun z => sr fa fb c' ha hb c3 q1 (fun y => absurd z y) (el c' (fun y => absurd z y) (fun _ => rfl))⟩
  have t2 : (2 : Int32) ≤ nI (kf p) ↔ 2 ≤ kf p := le_nn (a := 2) (by omega) (by omega)
  have lab : nI a' ≤ nI b' ↔ a' ≤ b' := le_nn (by omega) (by omega)
  refine w_mKindOf hp ?_
  show _ ∧ _
  rw [n2', lab]
  have same : (kf p = 2 → a' < b') → p_M_odds_j179 0 (12, 0) (nI a') (nI b') (nI c') (nI (kf p)) g35 G := fun q => by
    unfold p_M_odds_j179 p_M_odds_j191
    rw [t2]
    refine ⟨fun _ => ⟨fun k2 => ⟨fun _ => j213 a' b' a3 b3 (fun z => by omega) (fun fc z1 z2 => ?_), fun z => absurd rfl z⟩, fun k2 => j213 a' 0 a3 (by omega) (fun _ => rfl) (fun fc z1 z2 => ?_)⟩, fun z => absurd rfl z⟩
    · rw [lin2_lin q]
      rcases k5 hk with e | e | e | e | e <;> rw [e] at k2 k4 z1 z2 ⊢ <;> first | omega | rfl | (rw [z2 rfl])
    · rw [lin2_lin (fun e => by omega)]
      rcases k5 hk with e | e | e | e | e <;> rw [e] at k2 k4 z1 z2 ⊢ <;> first | omega | rfl
  refine ⟨fun k2 => same (fun e => absurd e k2), fun k2 => ⟨fun z => same (fun _ => by omega), fun z => ?_⟩⟩
  unfold p_M_odds_j179 p_M_odds_j191
  rw [t2]
  refine ⟨fun z => absurd z (by decide), fun _ => ⟨fun _ => ⟨fun z => absurd z (by decide), fun _ => j213 b' a' b3 a3 (fun z => by omega) (fun fc z1 z2 => ?_)⟩, fun z => absurd (by omega) z⟩⟩
  rw [k2]
  unfold lin2
  rw [if_pos rfl, if_pos (by omega)]
  rfl
end Odds3
