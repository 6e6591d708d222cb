section Odds
variable {L : Nat} {xs : Nat → Int32} {nr nt : Nat} {v h g : xH}
def g3 (I : xN → Nat → Int32) (r : Nat) (a b c : Int32) : Prop := isRn I r a ∧ isRn I r b ∧ (c = 0 ∨ isRn I r c)
def dup3 (a b c : Int32) : Prop := a = b ∨ a = c ∨ b = c
def gone3 (I : xN → Nat → Int32) (r : Nat) (a b c : Int32) : Prop := gnn I r a.toNatClampNeg ∨ gnn I r b.toNatClampNeg ∨ gnn I r c.toNatClampNeg
theorem g3_n (i : Inv L xs nr nt v) {r : Nat} (hr : r < nr) {a b c : Int32} (z : g3 (hI v) r a b c) : ∃ a' b' c', a = nI a' ∧ b = nI b' ∧ c = nI c' ∧ 1 ≤ a' ∧ 1 ≤ b' ∧ a' ≤ (hI v (36, 0) r).toNatClampNeg ∧ b' ≤ (hI v (36, 0) r).toNatClampNeg ∧ c' ≤ (hI v (36, 0) r).toNatClampNeg ∧ a' ≤ 12 ∧ b' ≤ 12 ∧ c' ≤ 12 := by
  have r12 := rn12 i hr
  obtain ⟨⟨a', a1, a2, a3⟩, ⟨b', b1, b2, b3⟩, C⟩ := z
  obtain ⟨c', c1, c2⟩ : ∃ c', c = nI c' ∧ c' ≤ (hI v (36, 0) r).toNatClampNeg := by
    rcases C with C | ⟨c', c1, c2, c3⟩
    · exact ⟨0, C, by omega⟩
    · exact ⟨c', c3, c2⟩
  exact ⟨a', b', c', a3, b3, c1, a1, b1, a2, b2, c2, by omega, by omega, by omega⟩
theorem dup_n {a b c : Nat} (ha : a ≤ 12) (hb : b ≤ 12) (hc : c ≤ 12) (z : ¬ dup3 (nI a) (nI b) (nI c)) : a ≠ b ∧ a ≠ c ∧ b ≠ c :=
  ⟨fun e => z (Or.inl (by rw [e])), fun e => z (Or.inr (Or.inl (by rw [e]))), fun e => z (Or.inr (Or.inr (by rw [e])))⟩
theorem gone_n {I : xN → Nat → Int32} {r a b c : Nat} (ha : a ≤ 12) (hb : b ≤ 12) (hc : c ≤ 12) : gone3 I r (nI a) (nI b) (nI c) ↔ (gnn I r a ∨ gnn I r b ∨ gnn I r c) := by
  unfold gone3; rw [cl_n (by omega), cl_n (by omega), cl_n (by omega)]
/-- how the class refuses -/
theorem w_oddsC (i : Inv L xs nr nt h) {x a b c : Int32} {Q : Int32 → xH → Prop} (n2 : (∀ p, p < 48 → hI h (40, 0) p = 1 → x ≠ nI p) → Q (-2) h) (n3 : ∀ p, p < 48 → hI h (40, 0) p = 1 → x = nI p → ¬ g3 (hI h) (p / 4) a b c → Q (-3) h) (n4 : ∀ p, p < 48 → hI h (40, 0) p = 1 → x = nI p → g3 (hI h) (p / 4) a b c → dup3 a b c → Q (-4) h)
    (n5 : ∀ p, p < 48 → hI h (40, 0) p = 1 → x = nI p → g3 (hI h) (p / 4) a b c → ¬ dup3 a b c → gone3 (hI h) (p / 4) a b c → Q (-5) h) (n6 : ∀ p, p < 48 → hI h (40, 0) p = 1 → x = nI p → g3 (hI h) (p / 4) a b c → ¬ dup3 a b c → ¬ gone3 (hI h) (p / 4) a b c → hI h (35, 0) (p / 4) = 2 → Q (-6) h)
    (ok : ∀ p, p < 48 → hI h (40, 0) p = 1 → x = nI p → g3 (hI h) (p / 4) a b c → ¬ dup3 a b c → ¬ gone3 (hI h) (p / 4) a b c → ¬ hI h (35, 0) (p / 4) = 2 → p_T_suppose (11, 0) (6, p / 4) a b c h (fun h26 : xH => (kd (hR h26 (11, 0) 7).1 = (1, 6)) ∧ p_Se_reckon (hR h26 (11, 0) 7) (5, p) (hR h26 (11, 0) 6) (hR h26 (11, 0) 6) h26 (fun h28 : xH => (kd ((5, p) : xN).1 = (1, 3)) ∧ p_Po_lineOf (5, p) a b c h28 (fun (v31 : Int32) (h30 : xH) => (kd (hR h28 (11, 0) 7).1 = (1, 6)) ∧ p_Se_dividendOf (hR h28 (11, 0) 7) v31 h30 (fun (v34 : Int32) (h33 : xH) => Q v34 h33))))) : p_T_odds (11, 0) x a b c h Q := by
  unfold p_T_odds
  refine ⟨rfl, w_findPool i (SC.rf h) (fun hno => ⟨fun _ => n2 (fun p hp => hno p (by omega)), fun z => absurd rfl z⟩) (fun p hp there e => ⟨fun z => absurd z (nz 4 p), fun _ => ⟨rfl, ?_⟩⟩)⟩
  have pr := plr i hp there
  have pk := plk i hp there
  have rc := prc i hp there
  have hk := kf_le (p := p)
  have n4' : nI (kf p) = (4 : Int32) ↔ kf p = 4 := nI_inj (b := 4) (by omega) (by omega)
  rw [pk.2.1, n4']
  refine ⟨fun k4 w hw => ?_, fun k4 => n2 (fun p' hp' _ e' => ?_)⟩
  · have n48 : p ≠ 48 := fun e => k4 (rc.2.2.2.mp e)
    have p48 : p < 48 := by omega
    have fr : frp (hI h) p = p / 4 := by unfold frp; rw [if_neg n48]
    rw [pr.2.1, fr] at hw
    have hr : p / 4 < nr := by rw [← fr]; exact rc.1
    have st := (i.vr.1 (p / 4) hr).2
    subst hw
    have j67 : g3 (hI h) (p / 4) a b c → p_T_odds_j67 (11, 0) a b c (5, p) (6, p / 4) h Q := fun G => by
      obtain ⟨a', b', c', rfl, rfl, rfl, a1, b1, a2, b2, c2, a3, b3, c3⟩ := g3_n i hr G
      unfold p_T_odds_j67
      refine ⟨fun z => n4 p p48 there e G (Or.inl z), fun z1 => ⟨fun z => n4 p p48 there e G (Or.inr (Or.inl z)), fun z2 => ⟨fun z3 => ⟨rfl, ?_⟩, fun z => n4 p p48 there e G (Or.inr (Or.inr z))⟩⟩⟩
      have nd : ¬ dup3 (nI a') (nI b') (nI c') := fun z => z.elim z1 (fun z => z.elim z2 z3)
      have n5' := fun w => n5 p p48 there e G nd ((gone_n a3 b3 c3).mpr w)
      unfold p_R_areRow
      refine ⟨fun z => absurd z z1, fun _ => ⟨fun z => absurd z z2, fun _ => ⟨fun z => absurd z z3, fun _ => ⟨rfl, w_isOutN i hr a2 (fun ga => ⟨fun z => absurd rfl z, fun _ => w_isOutN i hr b2 (fun gb => ⟨fun z => absurd rfl z, fun _ => w_isOutN i hr c2 (fun gc => ⟨fun z => absurd rfl z, fun _ => ⟨fun _ => ?_, fun z => absurd z (by decide)⟩⟩) (fun gc => ⟨fun _ => ⟨fun z => absurd rfl z, fun _ => n5' (Or.inr (Or.inr gc))⟩, fun z => absurd z (by decide)⟩)⟩) (fun gb => ⟨fun _ => ⟨fun z => absurd rfl z, fun _ => n5' (Or.inr (Or.inl gb))⟩, fun z => absurd z (by decide)⟩)⟩) (fun ga => ⟨fun _ => ⟨fun z => absurd rfl z, fun _ => n5' (Or.inl ga)⟩, fun z => absurd z (by decide)⟩)⟩⟩⟩⟩
      rw [st.1]
      have ng : ¬ gone3 (hI h) (p / 4) (nI a') (nI b') (nI c') := fun w => ((gone_n a3 b3 c3).mp w).elim ga (fun w => w.elim gb gc)
      exact ⟨fun z => ⟨rfl, ok p p48 there e G nd ng z⟩, fun z => n6 p p48 there e G nd ng z⟩
    refine ⟨rfl, w_hasR i (SC.rf h) hr (fun z => ⟨fun _ => n3 p p48 there e (fun y => z y.1), fun y => absurd rfl y⟩) (fun za => ⟨fun y => absurd y (by decide), fun _ => w_hasR i (SC.rf h) hr (fun z => ⟨fun _ => n3 p p48 there e (fun y => z y.2.1), fun y => absurd rfl y⟩) (fun zb => ⟨fun y => absurd y (by decide), fun _ => ⟨fun c0 => j67 ⟨za, zb, Or.inl c0⟩, fun c0 => w_hasR i (SC.rf h) hr (fun z => ⟨fun y => absurd rfl y, fun _ => n3 p p48 there e (fun y => y.2.2.elim c0 z)⟩) (fun zc => ⟨fun _ => j67 ⟨za, zb, Or.inr zc⟩, fun y => absurd y (by decide)⟩)⟩⟩)⟩)⟩
  · rw [e, nI_inj (by omega) (by omega)] at e'
    have := rc.2.2.2.mpr k4
    omega
/-- how the model refuses -/
theorem w_oddsM (i : Inv L xs nr nt v) (s : SM v g) {x a b c : Int32} {Q : Int32 → xH → Prop} (n2 : (∀ p, p < 48 → hI v (40, 0) p = 1 → x ≠ nI p) → Q (-2) g) (n3 : ∀ p, p < 48 → hI v (40, 0) p = 1 → x = nI p → ¬ g3 (hI v) (p / 4) a b c → Q (-3) g) (n4 : ∀ p, p < 48 → hI v (40, 0) p = 1 → x = nI p → g3 (hI v) (p / 4) a b c → dup3 a b c → Q (-4) g)
    (n5 : ∀ p, p < 48 → hI v (40, 0) p = 1 → x = nI p → g3 (hI v) (p / 4) a b c → ¬ dup3 a b c → gone3 (hI v) (p / 4) a b c → Q (-5) g) (n6 : ∀ p, p < 48 → hI v (40, 0) p = 1 → x = nI p → g3 (hI v) (p / 4) a b c → ¬ dup3 a b c → ¬ gone3 (hI v) (p / 4) a b c → hI v (35, 0) (p / 4) = 2 → Q (-6) g)
    (ok : ∀ p, p < 48 → hI v (40, 0) p = 1 → x = nI p → g3 (hI v) (p / 4) a b c → ¬ dup3 a b c → ¬ gone3 (hI v) (p / 4) a b c → ¬ hI v (35, 0) (p / 4) = 2 → p_M_suppose (12, 0) a b c g (fun h31 : xH => ∀ h32 : xH, h32 = sI h31 (12, 0) 35 (0 : Int32) → p_M_group (12, 0) x h32 (fun h34 : xH => p_M_figure (12, 0) x (0 : Int32) (hI h34 (12, 0) 35) h34 (fun h35 : xH => p_M_kindOf x h35 (fun (v37 : Int32) (h36 : xH) => ((¬ v37 = (2 : Int32) → p_M_odds_j179 (0 : Int32) (12, 0) a b c v37 h36 Q) ∧ (v37 = (2 : Int32) → ((a ≤ b → p_M_odds_j179 (0 : Int32) (12, 0) a b c v37 h36 Q) ∧ (¬ a ≤ b → p_M_odds_j179 (1 : Int32) (12, 0) a b c v37 h36 Q))))))))) : p_M_odds (12, 0) x a b c g Q := by
  have hnr := i.vc.1
  have m := SM.m i s
  unfold p_M_odds
  refine ⟨rfl, w_isThere i s (fun hno => ⟨fun _ => n2 (fun p hp => hno p (by omega)), fun z => absurd rfl z⟩) (fun p hp there e => ⟨fun z => absurd z (by decide), fun _ => ⟨fun ne w hw => ?_, fun e' => n2 (fun p' hp' _ e2 => ?_)⟩⟩)⟩
  · have n48 : p ≠ 48 := fun z => ne (by rw [e, z]; rfl)
    have p48 : p < 48 := by omega
    have rc := prc i hp there
    have fr : frp (hI v) p = p / 4 := by unfold frp; rw [if_neg n48]
    have hr : p / 4 < nr := by rw [← fr]; exact rc.1
    have d4 : nI p / (4 : Int32) = nI (p / 4) := pk_div (a := p) (d := 4) (by omega) (by omega) (by omega)
    rw [e, d4] at hw
    subst hw
    have j61 : g3 (hI v) (p / 4) a b c → p_M_odds_j61 (12, 0) x a b c (nI (p / 4)) g Q := fun G => by
      obtain ⟨a', b', c', rfl, rfl, rfl, a1, b1, a2, b2, c2, a3, b3, c3⟩ := g3_n i hr G
      unfold p_M_odds_j61
      refine ⟨fun z => n4 p p48 there e G (Or.inl z), fun z1 => ⟨fun z => n4 p p48 there e G (Or.inr (Or.inl z)), fun z2 => ⟨fun z3 => ⟨rfl, ?_⟩, fun z => n4 p p48 there e G (Or.inr (Or.inr z))⟩⟩⟩
      have nd : ¬ dup3 (nI a') (nI b') (nI c') := fun z => z.elim z1 (fun z => z.elim z2 z3)
      have n5' := fun w => n5 p p48 there e G nd ((gone_n a3 b3 c3).mpr w)
      have s2 := SM.to2 i s
      refine w_isGoneN s2 (by omega) a3 (fun ga => ⟨fun z => absurd rfl z, fun _ => w_isGoneN s2 (by omega) b3 (fun gb => ⟨fun z => absurd rfl z, fun _ => w_isGoneN s2 (by omega) c3 (fun gc => ⟨fun _ => ?_, fun z => absurd rfl z⟩) (fun gc => ⟨fun z => absurd z (by decide), fun _ => n5' (Or.inr (Or.inr gc))⟩)⟩) (fun gb => ⟨fun _ => n5' (Or.inr (Or.inl gb)), fun z => absurd z (by decide)⟩)⟩) (fun ga => ⟨fun _ => n5' (Or.inl ga), fun z => absurd z (by decide)⟩)
      have ng : ¬ gone3 (hI v) (p / 4) (nI a') (nI b') (nI c') := fun w => ((gone_n a3 b3 c3).mp w).elim ga (fun w => w.elim gb gc)
      rw [mR1 m, mS1 m, cl_n (by omega), s.i 35]
      exact ⟨rfl, in_n (by omega) (by omega), fun z => ok p p48 there e G nd ng z, fun z => n6 p p48 there e G nd ng z⟩
    exact w_isR i s hr (fun z => ⟨fun _ => n3 p p48 there e (fun y => z y.1), fun y => absurd rfl y⟩) (fun za => ⟨fun y => absurd y (by decide), fun _ => w_isR i s hr (fun z => ⟨fun _ => n3 p p48 there e (fun y => z y.2.1), fun y => absurd rfl y⟩) (fun zb => ⟨fun y => absurd y (by decide), fun _ => ⟨fun c0 => j61 ⟨za, zb, Or.inl c0⟩, fun c0 => w_isR i s hr (fun z => ⟨fun y => absurd rfl y, fun _ => n3 p p48 there e (fun y => y.2.2.elim c0 z)⟩) (fun zc => ⟨fun _ => j61 ⟨za, zb, Or.inr zc⟩, fun y => absurd y (by decide)⟩)⟩⟩)⟩)
  · have e3 := e'.symm.trans e2
    have := (nI_inj (a := 48) (by omega) (by omega)).mp e3
    omega
end Odds
