section Odds2
variable {L : Nat} {xs : Nat → Int32} {nr nt : Nat} {v h g : xH}
theorem w_oddsMp (i : Inv L xs nr nt v) (s : SM v g) {p : Nat} (hp : p < 48) (there : hI v (40, 0) p = 1) {a b c : Int32} {Q : Int32 → xH → Prop} (n3 : ¬ g3 (hI v) (p / 4) a b c → Q (-3) g) (n4 : g3 (hI v) (p / 4) a b c → dup3 a b c → Q (-4) g)
    (n5 : g3 (hI v) (p / 4) a b c → ¬ dup3 a b c → gone3 (hI v) (p / 4) a b c → Q (-5) g) (n6 : g3 (hI v) (p / 4) a b c → ¬ dup3 a b c → ¬ gone3 (hI v) (p / 4) a b c → hI v (35, 0) (p / 4) = 2 → Q (-6) g)
    (ok : g3 (hI v) (p / 4) a b c → ¬ dup3 a b c → ¬ gone3 (hI v) (p / 4) a b c → ¬ hI v (35, 0) (p / 4) = 2 → p_M_suppose (12, 0) a b c g (fun h31 : xH => ∀ h32 : xH, h32 = sI h31 (12, 0) 35 (0 : Int32) → p_M_group (12, 0) (nI p) h32 (fun h34 : xH => p_M_figure (12, 0) (nI p) (0 : Int32) (hI h34 (12, 0) 35) h34 (fun h35 : xH => p_M_kindOf (nI p) h35 (fun (v37 : Int32) (h36 : xH) => ((¬ v37 = (2 : Int32) → p_M_odds_j179 (0 : Int32) (12, 0) a b c v37 h36 Q) ∧ (v37 = (2 : Int32) → ((a ≤ b → p_M_odds_j179 (0 : Int32) (12, 0) a b c v37 h36 Q) ∧ (¬ a ≤ b → p_M_odds_j179 (1 : Int32) (12, 0) a b c v37 h36 Q))))))))) : p_M_odds (12, 0) (nI p) a b c g Q := by
  have pe : ∀ {p'}, p' < 48 → nI p = nI p' → p' = p := fun h' e => ((nI_inj (by omega) (by omega)).mp e).symm
  refine w_oddsM i s (fun z => absurd rfl (z p hp there)) (fun p' h' _ e => ?_) (fun p' h' _ e => ?_) (fun p' h' _ e => ?_) (fun p' h' _ e => ?_) (fun p' h' _ e => ?_)
  all_goals (have := pe h' e; subst this; assumption)
theorem scr_eq {h' : xH} (s : Sm KSc h h') : lvl (hI h') = lvl (hI h) ∧ lvu (hI h') = lvu (hI h) ∧ rnOf h' = rnOf h ∧ frp (hI h') = frp (hI h) ∧ (∀ nt p lu un de ca, Bk h nt p lu un de ca → Bk h' nt p lu un de ca) ∧ tkc (hI h') = tkc (hI h) ∧ hI h' (40, 0) = hI h (40, 0) ∧ hI h' (35, 0) = hI h (35, 0) ∧ hI h' (43, 0) = hI h (43, 0) := by
  have o : ∀ k, k = 58 ∨ k = 59 ∨ k = 60 ∨ k = 61 ∨ k = 62 ∨ k = 63 ∨ k = 38 ∨ k = 36 ∨ k = 41 ∨ k = 42 ∨ k = 50 ∨ k = 40 ∨ k = 35 ∨ k = 43 → hI h' (k, 0) = hI h (k, 0) := fun k hk => funext (fun j => s.1 _ _ (fun z => by
    rcases z with z | z | z
    · simp at z; omega
    · simp at z
    · simp at z; omega))
  have e1 := o 58 (by simp); have e2 := o 59 (by simp); have e3 := o 60 (by simp); have e4 := o 61 (by simp); have e5 := o 62 (by simp); have e6 := o 63 (by simp); have e7 := o 38 (by simp); have e8 := o 36 (by simp)
  have x1 : lvl (hI h') = lvl (hI h) := by funext nt p l; unfold lvl tl; rw [e1, e2, e3, e4, e5, e6]
  have x2 : lvu (hI h') = lvu (hI h) := by funext nt p; unfold lvu; rw [e1, e5, e6]
  refine ⟨x1, x2, ?_, ?_, fun nt p lu un de ca b => ?_, ?_, o 40 (by simp), o 35 (by simp), o 43 (by simp)⟩
  · funext r; unfold rnOf; rw [e7, e8]
  · funext p; unfold frp
    rw [s.1 (12, 0) 10 (fun z => by
      rcases z with z | z | z
      · simp at z
      · simp at z
      · simp at z)]
  · obtain ⟨b1, b2, b3, b4, b5⟩ := b
    exact ⟨by rw [x2]; exact b1, by rw [o 42 (by simp)]; exact b2, by rw [o 41 (by simp)]; exact b3, by rw [o 50 (by simp)]; exact b4, b5⟩
  · funext nt p; unfold tkc; rw [e1]
theorem GRr.cg {I I' : xN → Nat → Int32} {p a F G : Nat} {gl : Nat → Nat} (r : GRr g I p a F G gl) (e : lvl I' = lvl I) : GRr g I' p a F G gl := by
  unfold GRr at r ⊢
  rw [e]; exact r
theorem lin_in {k a b c a' b' c' : Nat} (hk : k ≤ 4) (ha : a ≤ 12) (hb : b ≤ 12) (hc : c ≤ 12) (ha' : a' ≤ 12) (hb' : b' ≤ 12) (hc' : c' ≤ 12) (q1 : k < 2 → b = 0 ∧ b' = 0) (q3 : k ≠ 3 → c = 0 ∧ c' = 0) (e : lin k a b c = lin k a' b' c') : a = a' ∧ b = b' ∧ c = c' := by
  rcases k5 hk with rfl | rfl | rfl | rfl | rfl
  · have e' : a = a' := e
    have := q1 (by omega); have := q3 (by omega); omega
  · have e' : a = a' := e
    have := q1 (by omega); have := q3 (by omega); omega
  · have e' : a * 13 + b = a' * 13 + b' := e
    have := q3 (by omega); omega
  · have e' : (a * 13 + b) * 13 + c = (a' * 13 + b') * 13 + c' := e
    omega
  · have e' : a * 13 + b = a' * 13 + b' := e
    have := q3 (by omega); omega
theorem w_srch (m : ShM (hS g) (hR g)) {G n : Nat} (e35 : hI g (12, 0) 35 = nI G) (hG : G ≤ 200) (e41 : hI g (12, 0) 41 = nI n) (hn : n ≤ 2197) {a b c : Int32} {K : xH → Prop} {Q : Int32 → xH → Prop} (no : (n = 0 ∨ ∀ x, x < G → ¬ (hI g (70, 0) x = a ∧ hI g (71, 0) x = b ∧ hI g (72, 0) x = c)) → K g) (yes : ∀ x, x < G → n ≠ 0 → hI g (70, 0) x = a → hI g (71, 0) x = b → hI g (72, 0) x = c → Q (hI g (74, 0) x) g) : ∃ f, p_M_odds_L232 (12, 0) a b c K Q f 0 g := by
  have key : ∀ (mm x : Nat), x + mm = G → (∀ y, y < x → ¬ (hI g (70, 0) y = a ∧ hI g (71, 0) y = b ∧ hI g (72, 0) y = c)) → p_M_odds_L232 (12, 0) a b c K Q (mm + 1) (nI x) g := by
    intro mm
    induction mm with
    | zero =>
      intro x hx f
      unfold p_M_odds_L232
      rw [e35, le_nn (by omega) (by omega)]
      exact ⟨rfl, fun _ => no (Or.inr (fun y hy => f y (by omega))), fun z => absurd (by omega) z⟩
    | succ mm ih =>
      intro x hx f
      have z0 : nI n ≤ (0 : Int32) ↔ n = 0 := (le_nn (b := 0) (by omega) (by omega)).trans (by omega)
      have go : ¬ (hI g (70, 0) x = a ∧ hI g (71, 0) x = b ∧ hI g (72, 0) x = c) → ∀ w : Int32, w = nI x + 1 → p_M_odds_L232 (12, 0) a b c K Q (mm + 1) w g := fun z w hw => by
        rw [hw, nI_1]
        exact ih (x + 1) (by omega) (fun y hy => if e : y = x then by rw [e]; exact z else f y (by omega))
      unfold p_M_odds_L232
      rw [e35, le_nn (by omega) (by omega), e41, z0, mR36 m, mS36 m, mR37 m, mS37 m, mR38 m, mS38 m, mR40 m, mS40 m, cl_n (by omega)]
      exact ⟨rfl, fun z => by omega, fun _ => ⟨fun z => no (Or.inl z), fun nz => ⟨rfl, in_n (by omega) (by omega), fun z => go (fun y => z y.1), fun za => ⟨rfl, in_n (by omega) (by omega), fun z => go (fun y => z y.2.1), fun zb => ⟨rfl, in_n (by omega) (by omega), fun z => go (fun y => z y.2.2), fun zc => ⟨rfl, in_n (by omega) (by omega), yes x (by omega) nz za zb zc⟩⟩⟩⟩⟩⟩
  exact ⟨G + 1, key G 0 (by omega) (fun y hy => by omega)⟩
/-- what odds answers -/
def oA (k M : Nat) (U : Nat → Nat) (W : Nat → Bool) (lu un de ci : Int32) (l : Nat) : Int32 := if W l = true ∧ 0 < U l then zD k M U W lu un de ci l else 0
theorem w_divOf {h' : xH} {k M l : Nat} {U : Nat → Nat} {W : Nat → Bool} {lu un de ci : Int32} {vo : Prop} (r : RkR h' k M U W vo lu un de ci) (x : ShX (hS h') (hR h')) (hN : zN M U W ≤ 200) (hM : M ≤ 2197) (hl : l < M) (hv : vo → W l = true → 0 < U l → False) {Q : Int32 → xH → Prop} (q : Q (oA k M U W lu un de ci l) h') : p_Se_dividendOf (8, 0) (nI l) h' Q := by
  obtain ⟨ln, en, t, r⟩ := r
  have n0 : (zN M U W = 0) → ¬ (W l = true ∧ 0 < U l) := fun z y => by
    obtain ⟨i, hi, -⟩ := en.2.2 l hl y
    omega
  unfold p_Se_dividendOf p_Se_dividendOf_j16
  unfold oA at q
  have idx : hI h' (8, 0) 3 = 0 → (∀ i, i < zN M U W → hI h' (25, 0) i = zD k M U W lu un de ci (ln i)) → _ := fun e3 d => w_indexOf (l := l) (xR_8_0_0 x) (xS_24_0 x) t hN (fun i hi => by have := (en.1 i hi).1; omega) (by omega) (Q := fun (v4 : Int32) (h3 : xH) => ((¬ v4 = (-1 : Int32) → (kd ((8, 0) : xN).1 = (1, 6)) ∧ (kd (hR h3 (8, 0) 1).1 = (2, 0)) ∧ (vp_in v4 (hS h3 (hR h3 (8, 0) 1) - 1)) ∧ Q (hI h3 (hR h3 (8, 0) 1) v4.toNatClampNeg) h3) ∧ (v4 = (-1 : Int32) → Q (0 : Int32) h3)))
    (fun no => ⟨fun z => absurd rfl z, fun _ => by
      rw [if_neg (fun y => by obtain ⟨i, hi, e⟩ := en.2.2 l hl y; exact no i hi e)] at q; exact q⟩)
    (fun i hi e => ⟨fun _ => by
      rw [xR_8_0_1 x, xS_25_0 x, cl_n (by omega), d i hi, e]
      have := (en.1 i hi).2
      rw [e] at this
      rw [if_pos this] at q
      exact ⟨rfl, rfl, in_n (by omega) (by omega), q⟩, fun z => absurd z (by
        intro w
        have := congrArg Int32.toInt w
        rw [ti_n (by omega), show (-1 : Int32).toInt = -1 by decide] at this
        omega)⟩)
  rcases r with ⟨r1, r3, -⟩ | ⟨r1, z, r3, -⟩ | ⟨r1, z, r3, -, -, -, -, -, d⟩
  · refine ⟨rfl, fun z => absurd (r3.symm.trans z) (by decide), fun _ => ⟨fun z => absurd rfl z, fun _ => ?_⟩⟩
    have : ¬ (W l = true ∧ 0 < U l) := fun y => r1.elim (fun v => hv v y.1 y.2) (fun z => n0 z.1 y)
    rw [if_neg this] at q; exact q
  · exact ⟨rfl, fun _ => idx r3 (fun i hi => by omega), fun y => absurd r3 y⟩
  · exact ⟨rfl, fun _ => idx r3 d, fun y => absurd r3 y⟩
end Odds2
