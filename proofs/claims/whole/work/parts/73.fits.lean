section Fits
variable {L : Nat} {xs : Nat → Int32} {nr nt : Nat} {v g g0 : xH}
/-- whether runners come in first, second, third (0: none) -/
def ftP (at' : Nat → Nat) (a b c : Nat) : Prop := at' a ≠ 0 ∧ (b ≠ 0 → at' b ≠ 0 ∧ at' a ≤ at' b) ∧ (c ≠ 0 → at' c ≠ 0 ∧ at' b ≤ at' c) ∧ ∀ k, k < 13 → k ≠ 0 → k ≠ a → k ≠ b → k ≠ c → at' k ≠ 0 → (if c ≠ 0 then at' c else if b ≠ 0 then at' b else at' a) ≤ at' k
/-- a row of positions -/
def AtH (g : xH) (o : xN) (at' : Nat → Nat) : Prop := kd o.1 = (2, 0) ∧ hS g o = 14 ∧ ∀ k, k < 13 → hI g o k = nI (at' k) ∧ at' k ≤ 12
theorem w_fits {o : xN} {at' : Nat → Nat} (A : AtH g o at') {a b c : Nat} (ha : a ≤ 12) (hb : b ≤ 12) (hc : c ≤ 12) {Q : Int32 → xH → Prop} (no : ¬ ftP at' a b c → Q 0 g) (yes : ftP at' a b c → Q 1 g) : p_M_fits (12, 0) o (nI a) (nI b) (nI c) g Q := by
  obtain ⟨ho, so, ev⟩ := A
  have e0 : ∀ x, x ≤ 12 → (nI x = (0 : Int32) ↔ x = 0) := fun x hx => nI_inj (b := 0) (by omega) (by omega)
  have l0 : ∀ x, x ≤ 12 → (nI x ≤ (0 : Int32) ↔ x = 0) := fun x hx => (le_nn (b := 0) (by omega) (by omega)).trans (by omega)
  have loop : ∀ most, most ≤ 12 → most = (if c ≠ 0 then at' c else if b ≠ 0 then at' b else at' a) → (at' a ≠ 0 ∧ (b ≠ 0 → at' b ≠ 0 ∧ at' a ≤ at' b) ∧ (c ≠ 0 → at' c ≠ 0 ∧ at' b ≤ at' c)) → ∃ f, p_M_fits_L79 o (nI a) (nI b) (nI c) (nI most) (fun h => Q 1 h) Q f (1 : Int32) g := by
    intro most hm em pre
    refine ⟨13, ?_⟩
    have key : ∀ (m x : Nat), x + m = 13 → 1 ≤ x → (∀ k, k < x → k ≠ 0 → k ≠ a → k ≠ b → k ≠ c → at' k ≠ 0 → most ≤ at' k) → p_M_fits_L79 o (nI a) (nI b) (nI c) (nI most) (fun h => Q 1 h) Q (m + 1) (nI x) g := by
      intro m
      induction m with
      | zero =>
        intro x hx h1 z
        unfold p_M_fits_L79
        refine ⟨fun _ => yes ⟨pre.1, pre.2.1, pre.2.2, ?_⟩, fun c => absurd (show nI 13 ≤ nI x by rw [le_nn (by omega) (by omega)]; omega) c⟩
        rw [← em]
        exact fun k hk => z k (by omega)
      | succ m ih =>
        intro x hx h1 z
        have ex := ev x (by omega)
        unfold p_M_fits_L79
        rw [so, cl_n (by omega), ex.1, l0 _ ex.2, le_nn (a := most) (b := at' x) (by omega) (by omega), nI_inj (a := x) (b := a) (by omega) (by omega), nI_inj (a := x) (b := b) (by omega) (by omega), nI_inj (a := x) (b := c) (by omega) (by omega)]
        have nxt : (x = a ∨ x = b ∨ x = c ∨ at' x = 0 ∨ most ≤ at' x) → ∀ w, w = nI x + 1 → p_M_fits_L79 o (nI a) (nI b) (nI c) (nI most) (fun h => Q 1 h) Q (m + 1) w g := fun y w hw => by
          rw [hw, nI_1]
          refine ih (x + 1) (by omega) (by omega) (fun k hk k0 ka kb kc kz => ?_)
          by_cases e : k = x
          · subst e
            rcases y with y | y | y | y | y
            · exact absurd y ka
            · exact absurd y kb
            · exact absurd y kc
            · exact absurd y kz
            · exact y
          · exact z k (by omega) k0 ka kb kc kz
        refine ⟨fun c => ?_, fun _ => ⟨fun y => nxt (Or.inl y), fun ya => ⟨fun y => nxt (Or.inr (Or.inl y)), fun yb => ⟨fun y => nxt (Or.inr (Or.inr (Or.inl y))), fun yc => ⟨ho, in_n (by omega) (by omega), fun y => nxt (Or.inr (Or.inr (Or.inr (Or.inl y)))), fun yz => ⟨in_n (by omega) (by omega), fun y => nxt (Or.inr (Or.inr (Or.inr (Or.inr y)))), fun y => no (fun F => ?_)⟩⟩⟩⟩⟩⟩
        · have c' : nI 13 ≤ nI x := c
          rw [le_nn (by omega) (by omega)] at c'; omega
        · have := F.2.2.2 x (by omega) (by omega) ya yb yc yz
          rw [← em] at this; exact y this
    exact key 12 1 (by omega) (by omega) (fun k hk k0 => by omega)
  have ea := ev a (by omega)
  have eb := ev b (by omega)
  have ec := ev c (by omega)
  have j49 : (at' a ≠ 0 ∧ (b ≠ 0 → at' b ≠ 0 ∧ at' a ≤ at' b) ∧ (c ≠ 0 → at' c ≠ 0 ∧ at' b ≤ at' c)) → p_M_fits_j49 o (nI a) (nI b) (nI c) g Q := fun pre => by
    unfold p_M_fits_j49
    rw [l0 c hc, l0 b hb, so, cl_n (by omega), cl_n (by omega), cl_n (by omega), ea.1, eb.1, ec.1]
    refine ⟨fun c0 => ⟨fun b0 => ⟨ho, in_n (by omega) (by omega), fun w hw => ?_⟩, fun b0 => ⟨ho, in_n (by omega) (by omega), fun w hw => ?_⟩⟩, fun c0 => ⟨ho, in_n (by omega) (by omega), fun w hw => ?_⟩⟩
    · rw [hw]; exact loop _ ea.2 (by rw [if_neg (fun z => z c0), if_neg (fun z => z b0)]) pre
    · rw [hw]; exact loop _ eb.2 (by rw [if_neg (fun z => z c0), if_pos b0]) pre
    · rw [hw]; exact loop _ ec.2 (by rw [if_pos c0]) pre
  have j25 : (at' a ≠ 0 ∧ (b ≠ 0 → at' b ≠ 0 ∧ at' a ≤ at' b)) → p_M_fits_j25 o (nI a) (nI b) (nI c) g Q := fun pre => by
    unfold p_M_fits_j25
    rw [l0 c hc, so, cl_n (by omega), cl_n (by omega), ec.1, eb.1, e0 _ ec.2, le_nn (a := at' b) (b := at' c) (by omega) (by omega)]
    exact ⟨fun c0 => j49 ⟨pre.1, pre.2, fun z => absurd c0 z⟩, fun c0 => ⟨ho, in_n (by omega) (by omega), fun z => no (fun F => (F.2.2.1 c0).1 z), fun z => ⟨in_n (by omega) (by omega), in_n (by omega) (by omega), fun y => j49 ⟨pre.1, pre.2, fun _ => ⟨z, y⟩⟩, fun y => no (fun F => y (F.2.2.1 c0).2)⟩⟩⟩
  unfold p_M_fits
  have lt : nI (at' b) < nI (at' a) ↔ ¬ at' a ≤ at' b := by rw [ti_lt, ti_n (by omega), ti_n (by omega)]; omega
  rw [l0 b hb, so, cl_n (by omega), cl_n (by omega), ea.1, eb.1, e0 _ ea.2, e0 _ eb.2, lt]
  exact ⟨ho, in_n (by omega) (by omega), fun z => no (fun F => F.1 z), fun z => ⟨fun b0 => j25 ⟨z, fun y => absurd b0 y⟩, fun b0 => ⟨in_n (by omega) (by omega), fun y => no (fun F => (F.2.1 b0).1 y), fun y => ⟨in_n (by omega) (by omega), in_n (by omega) (by omega), fun x => no (fun F => x (F.2.1 b0).2), fun x => j25 ⟨z, fun _ => ⟨y, Classical.not_not.mp x⟩⟩⟩⟩⟩⟩
/-- who wins, by kind -/
def wnT (k rn : Nat) (at1 at2 : Nat → Nat) (a b c : Nat) : Prop := match k with
  | 0 => ftP at1 a 0 0
  | 1 => at1 a ≠ 0 ∧ at1 a ≤ (if rn < 8 then 2 else 3)
  | 2 => ftP at1 a b 0 ∨ ftP at1 b a 0
  | 3 => ftP at1 a b c
  | _ => ftP at1 a 0 0 ∧ ftP at2 b 0 0
/-- the model answers how many run -/
def RunH (g : xH) (p rn : Nat) : Prop := rn ≤ 12 ∧ ∀ Q : Int32 → xH → Prop, Q (nI rn) g → p_M_running (12, 0) (nI (p / 4)) g Q
theorem w_wins (m : ShM (hS g) (hR g)) {p rn : Nat} {at1 at2 : Nat → Nat} (hp : p < 49) (A1 : AtH g (67, 0) at1) (A2 : kf p = 4 → AtH g (68, 0) at2) (R : kf p = 1 → RunH g p rn) {a b c : Nat} (t : trp (kf p) a b c) {Q : Int32 → xH → Prop} (no : ¬ wnT (kf p) rn at1 at2 a b c → Q 0 g) (yes : wnT (kf p) rn at1 at2 a b c → Q 1 g) : p_M_wins (12, 0) (nI p) (nI a) (nI b) (nI c) g Q := by
  have ha := t.1; have hb := t.2.1; have hc := t.2.2.1
  have d4 : nI p / (4 : Int32) = nI (p / 4) := pk_div (a := p) (d := 4) (by omega) (by omega) (by omega)
  unfold p_M_wins
  refine w_mKindOf hp ?_
  rw [mR33 m, mS33 m, d4]
  have hk := kf_le (p := p)
  unfold wnT at no yes
  generalize kf p = k at *
  rcases k5 hk with rfl | rfl | rfl | rfl | rfl
  · exact ⟨fun _ => ⟨rfl, w_fits (b := 0) (c := 0) A1 ha (by omega) (by omega) (fun z => ⟨Or.inl rfl, no z⟩) (fun z => ⟨Or.inr rfl, yes z⟩)⟩, fun z => absurd z (by decide), fun z => absurd z (by decide), fun z => absurd z (by decide), fun z => absurd rfl (z 0 (by simp))⟩
  · have ea := A1.2.2 a (by omega)
    have l0 : nI (at1 a) ≤ (0 : Int32) ↔ at1 a = 0 := (le_nn (b := 0) (by omega) (by omega)).trans (by omega)
    rw [cl_n (by omega), ea.1, l0]
    refine ⟨fun z => absurd z (by decide), fun _ => ⟨rfl, rfl, in_n (by omega) (by omega), fun z => no (fun y => y.1 z), fun z => ⟨in_n (by omega) (by omega), (R rfl).2 _ ?_⟩⟩, fun z => absurd z (by decide), fun z => absurd z (by decide), fun z => absurd rfl (z 1 (by simp))⟩
    have r12 := (R rfl).1
    have l8 : (8 : Int32) ≤ nI rn ↔ ¬ rn < 8 := (le_nn (a := 8) (by omega) (by omega)).trans (by omega)
    have l3 : (3 : Int32) < nI (at1 a) ↔ ¬ at1 a ≤ 3 := by
      rw [ti_lt, ti_n (by omega), show (3 : Int32).toInt = 3 from rfl]; omega
    have l2 : (2 : Int32) < nI (at1 a) ↔ ¬ at1 a ≤ 2 := by
      rw [ti_lt, ti_n (by omega), show (2 : Int32).toInt = 2 from rfl]; omega
    unfold p_M_wins_j80
    rw [l8, l3, l2]
    refine ⟨fun c => ?_, fun c => ?_⟩
    · rw [if_neg c] at no yes
      exact ⟨fun y => no (fun x => y x.2), fun y => yes ⟨z, Classical.not_not.mp y⟩⟩
    · rw [if_pos (Classical.not_not.mp c)] at no yes
      exact ⟨fun y => no (fun x => y x.2), fun y => yes ⟨z, Classical.not_not.mp y⟩⟩
  · refine ⟨fun z => absurd z (by decide), fun z => absurd z (by decide), fun _ => ⟨rfl, w_fits (c := 0) A1 ha hb (by omega) (fun z => ⟨fun y => absurd rfl y, fun _ => ?_⟩) (fun z => ⟨fun _ => yes (Or.inl z), fun y => absurd y (by decide)⟩)⟩, fun z => absurd z (by decide), fun z => absurd rfl (z 2 (by simp))⟩
    rw [mR33 m]
    exact w_fits (c := 0) A1 hb ha (by omega) (fun y => ⟨fun _ => no (fun x => x.elim z y), fun x => absurd rfl x⟩) (fun y => ⟨fun x => absurd x (by decide), fun _ => yes (Or.inr y)⟩)
  · exact ⟨fun z => absurd z (by decide), fun z => absurd z (by decide), fun z => absurd z (by decide), fun _ => ⟨rfl, w_fits A1 ha hb hc (fun z => ⟨Or.inl rfl, no z⟩) (fun z => ⟨Or.inr rfl, yes z⟩)⟩, fun z => absurd rfl (z 3 (by simp))⟩
  · refine ⟨fun z => absurd z (by decide), fun z => absurd z (by decide), fun z => absurd z (by decide), fun z => absurd z (by decide), fun _ => ⟨rfl, w_fits (b := 0) (c := 0) A1 ha (by omega) (by omega) (fun z => ⟨fun _ => no (fun y => z y.1), fun y => absurd rfl y⟩) (fun z => ⟨fun y => absurd y (by decide), fun _ => ?_⟩)⟩⟩
    rw [mR34 m]
    exact w_fits (b := 0) (c := 0) (A2 rfl) hb (by omega) (by omega) (fun y => ⟨fun _ => no (fun x => y x.2), fun x => absurd rfl x⟩) (fun y => ⟨fun x => absurd x (by decide), fun _ => yes ⟨z, y⟩⟩)
theorem w_mVoid {p rn : Nat} (hp : p < 49) (R : (kf p = 1 ∨ kf p = 2 ∨ kf p = 3) → RunH g p rn) {Q : Int32 → xH → Prop} (no : ¬ vd (kf p) rn → Q 0 g) (yes : vd (kf p) rn → Q 1 g) : p_M_isVoid (12, 0) (nI p) g Q := by
  have d4 : nI p / (4 : Int32) = nI (p / 4) := pk_div (a := p) (d := 4) (by omega) (by omega) (by omega)
  have hk := kf_le (p := p)
  unfold p_M_isVoid
  refine w_mKindOf hp ?_
  unfold vd at no yes
  have j33 : ∀ lo : Nat, 1 ≤ lo → lo ≤ 5 → (kf p = 1 ∨ kf p = 2 ∨ kf p = 3) → (lo ≤ rn → Q 0 g) → (¬ lo ≤ rn → Q 1 g) → p_M_isVoid_j33 (nI lo) (12, 0) (nI p) g Q := fun lo h1 h5 k q0 q1 => by
    have r12 := (R k).1
    unfold p_M_isVoid_j33
    have l0 : nI lo ≤ (0 : Int32) ↔ lo = 0 := (le_nn (b := 0) (by omega) (by omega)).trans (by omega)
    rw [l0, d4]
    refine ⟨fun z => by omega, fun _ => ⟨rfl, (R k).2 _ ?_⟩⟩
    rw [le_nn (by omega) (by omega)]
    exact ⟨q0, q1⟩
  have z33 : Q 0 g → p_M_isVoid_j33 0 (12, 0) (nI p) g Q := fun q => ⟨fun _ => q, fun z => absurd (by decide) z⟩
  generalize kf p = k at *
  rcases k5 hk with rfl | rfl | rfl | rfl | rfl
  · exact ⟨fun _ => ⟨fun _ => ⟨fun _ => z33 (no (by omega)), fun z => absurd z (by decide)⟩, fun z => absurd z (by decide)⟩, fun z => absurd z (by decide)⟩
  · exact ⟨fun z => absurd rfl z, fun _ => j33 5 (by omega) (by omega) (by omega) (fun y => no (by omega)) (fun y => yes (by omega))⟩
  · exact ⟨fun _ => ⟨fun z => absurd rfl z, fun _ => j33 2 (by omega) (by omega) (by omega) (fun y => no (by omega)) (fun y => yes (by omega))⟩, fun z => absurd z (by decide)⟩
  · exact ⟨fun _ => ⟨fun _ => ⟨fun z => absurd rfl z, fun _ => j33 3 (by omega) (by omega) (by omega) (fun y => no (by omega)) (fun y => yes (by omega))⟩, fun z => absurd z (by decide)⟩, fun z => absurd z (by decide)⟩
  · exact ⟨fun _ => ⟨fun _ => ⟨fun _ => z33 (no (by omega)), fun z => absurd z (by decide)⟩, fun z => absurd z (by decide)⟩, fun z => absurd z (by decide)⟩
end Fits
