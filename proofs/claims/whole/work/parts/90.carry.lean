section Carry
variable {qq : Prop} {L : Nat} {xs : Nat → Int32} {nr nt : Nat} {v v0 h g : xH}
/-- the next race whose order pool takes what is carried -/
def nxr (I : xN → Nat → Int32) : Nat → Nat → Option Nat
  | 0, _ => none
  | m + 1, a => if I (40, 0) (4 * a + 3) = 1 ∧ ¬ I (35, 0) a = 2 then some a else nxr I m (a + 1)
def cry1 (v : xH) (x : Int32) : Option Nat → xH
  | some a => sI (sI v (19, 4 * a + 3) 4 (hI v (19, 4 * a + 3) 4 + x)) (50, 0) (4 * a + 3) (hI v (50, 0) (4 * a + 3) + x)
  | none => sI (sI v (11, 0) 12 (hI v (11, 0) 12 + x)) (12, 0) 22 (hI v (12, 0) 22 + x)
def cry (v : xH) (nr p : Nat) (x : Int32) : xH := cry1 v x (nxr (hI v) (nr - (p / 4 + 1)) (p / 4 + 1))
/-- the places of an entry -/
def KE : xN → Nat → Prop := fun n _ => n.1 ∈ [18, 19, 43, 49, 51, 52, 53, 54, 65, 66]
theorem ke_k {k m j : Nat} (h : k ≠ 18 ∧ k ≠ 19 ∧ k ≠ 43 ∧ ¬ (49 ≤ k ∧ k ≤ 66) ∨ k = 50 ∨ (54 < k ∧ k < 65)) : ¬ KE (k, m) j := fun z => by
  unfold KE at z
  simp at z
  omega
theorem w_carryC (i : InvQ qq L xs nr nt v0) (ke : Sm KE v0 v) (s : SCx v h) {p : Nat} (hp : p < 49) (there : hI v0 (40, 0) p = 1) {Q : xH → Prop} (q : ∀ h', SCx (cry v nr p (hI v (19, p) 5)) h' → Sm KC h h' → Q h') : p_T_carryOn (11, 0) (5, p) h Q := by
  have hnr := i.vc.1
  have pr := plr i hp there
  have pk := plk i hp there
  have S : hS h = hS v0 := s.2.1.trans ke.2.1
  have R : hR h = hR v0 := s.2.2.trans ke.2.2
  have x : ShX (hS h) (hR h) := by rw [S, R]; exact i.x
  have o : ∀ k m j, k < 34 ∧ k ≠ 12 → k ≠ 8 ∧ k ≠ 24 ∧ k ≠ 25 ∧ k ≠ 4 ∧ k ≠ 15 ∧ k ≠ 16 → k ≠ 18 ∧ k ≠ 19 → hI h (k, m) j = hI v0 (k, m) j := fun k m j h1 h2 h3 => by
    rw [s.i k m j h1 (ksk_k h2), ke.1 _ _ (ke_k (by omega))]
  have d4 : nI p / (4 : Int32) = nI (p / 4) := pk_div (a := p) (d := 4) (by omega) (by omega) (by omega)
  have e5 : hI h (19, p) 5 = hI v (19, p) 5 := s.i 19 p 5 (by omega) (ksk_k (by omega))
  unfold p_T_carryOn
  rw [R, pr.2.2.2.2.2.1, S, pr.2.2.2.2.2.2.2.2]
  refine ⟨rfl, rfl, (show vp_in (nI 5) (12 - 1) from in_n (by omega) (by omega)), fun v4 h4 v6 h6 => ?_⟩
  rw [show (5 : Int32).toNatClampNeg = 5 from rfl, e5] at h4
  rw [o 5 p 0 (by omega) (by omega) (by omega), pk.1, d4, nI_1] at h6
  subst h6
  rw [← h4] at q
  have key : ∀ (m a : Nat), a + m = max nr (p / 4 + 1) → p / 4 + 1 ≤ a → nxr (hI v) (nr - (p / 4 + 1)) (p / 4 + 1) = nxr (hI v) m a → p_T_carryOn_L16 (11, 0) v4 (fun (h31 : xH) => (kd ((11, 0) : xN).1 = (1, 9)) ∧ ∀ h33 : xH, h33 = sI h31 (11, 0) 12 ((hI h31 (11, 0) 12) + v4) → Q h33) Q (m + 1) (nI a) h := by
    intro m
    induction m with
    | zero =>
      intro a ha ha1 en
      unfold p_T_carryOn_L16
      rw [o 11 0 10 (by omega) (by omega) (by omega), i.vc.2.2.1, le_nn (by omega) (by omega)]
      refine ⟨rfl, fun _ => ⟨rfl, fun h33 q33 => q h33 ?_ (by rw [q33]; exact (Sm.rf _ h).si _ (by simp [KC]))⟩, fun z => absurd (by omega) z⟩
      unfold cry
      rw [en]
      unfold nxr cry1
      rw [q33, s.i 11 0 12 (by omega) (ksk_k (by omega))]
      exact (s.si _ _ _).om (Or.inr rfl) _ _
    | succ m ih =>
      intro a ha ha1 en
      have ha12 : a < nr := by omega
      have e40 : hI v (40, 0) (4 * a + 3) = hI v0 (40, 0) (4 * a + 3) := ke.1 _ _ (ke_k (by omega))
      have e35 : hI v (35, 0) a = hI v0 (35, 0) a := ke.1 _ _ (ke_k (by omega))
      have ix : (4 : Int32) * nI a + (3 : Int32) = nI (4 * a + 3) := by rw [show (4 : Int32) = nI 4 from rfl, show (3 : Int32) = nI 3 from rfl, nI_x, nI_add]
      have un : nxr (hI v) (m + 1) a = if hI v0 (40, 0) (4 * a + 3) = 1 ∧ ¬ hI v0 (35, 0) a = 2 then some a else nxr (hI v) m (a + 1) := by
        rw [nxr, e40, e35]
      have st7 := (i.vr.1 a ha12).2.1
      unfold p_T_carryOn_L16 p_T_poolNumber
      rw [o 11 0 10 (by omega) (by omega) (by omega), i.vc.2.2.1, le_nn (by omega) (by omega)]
      refine ⟨rfl, fun z => absurd z (by omega), fun _ => ?_⟩
      show _ ∧ _
      rw [xR_11_0_1 x, xS_28_0 x, ix, cl_n (by omega), R]
      refine ⟨rfl, in_n (by omega) (by omega), fun v14 h14 => ?_⟩
      have skip : ¬ (hI v0 (40, 0) (4 * a + 3) = 1 ∧ ¬ hI v0 (35, 0) a = 2) → ∀ y : Int32, y = nI a + 1 → p_T_carryOn_L16 (11, 0) v4 (fun (h31 : xH) => (kd ((11, 0) : xN).1 = (1, 9)) ∧ ∀ h33 : xH, h33 = sI h31 (11, 0) 12 ((hI h31 (11, 0) 12) + v4) → Q h33) Q (m + 1) y h := fun z y hy => by
        rw [hy, nI_1]
        refine ih (a + 1) (by omega) (by omega) ?_
        rw [en, un, if_neg z]
      have xR0 : hR v0 (11, 0) 0 = (27, 0) := xR_11_0_0 i.x
      rcases th01 i (p := 4 * a + 3) (by omega) with ⟨th, e28⟩ | ⟨nth, e28⟩
      · rw [e28] at h14
        subst h14
        have pr' := plr i (p := 4 * a + 3) (by omega) th
        have r27 := (i.sr.1 a ha12).1
        rw [xR0, xS_27_0 x, cl_n (by omega), r27, o 6 a 7 (by omega) (by omega) (by omega), st7, pr'.2.2.2.2.2.1, S, pr'.2.2.2.2.2.2.2.2]
        refine ⟨fun z => absurd z (by simp), fun _ => ⟨rfl, in_n (by omega) (by omega), rfl, fun z => skip (fun w => w.2 z), fun z => ⟨rfl, rfl, (show vp_in (nI 4) (12 - 1) from in_n (by omega) (by omega)), (show vp_in (nI 4) (12 - 1) from in_n (by omega) (by omega)), fun h29 q29 => q h29 ?_ (by rw [q29]; exact (Sm.rf _ h).si _ (by simp [KC]))⟩⟩⟩
        unfold cry
        rw [en, un, if_pos ⟨th, z⟩]
        unfold cry1
        rw [q29, show (4 : Int32).toNatClampNeg = 4 from rfl, s.i 19 _ 4 (by omega) (ksk_k (by omega))]
        exact (s.si _ _ _).om (Or.inl (by simp)) _ _
      · rw [e28] at h14
        subst h14
        exact ⟨fun _ => skip (fun w => absurd (nth.symm.trans w.1) (by decide)), fun z => absurd rfl z⟩
  refine ⟨max nr (p / 4 + 1) - (p / 4 + 1) + 1, key _ (p / 4 + 1) (by omega) (Nat.le_refl _) ?_⟩
  congr 1
  omega
theorem w_carryM (i : InvQ qq L xs nr nt v0) (ke : Sm KE v0 v) (s : SMx v g) {p : Nat} {y : Int32} (hp : p < 49) {Q : xH → Prop} (q : ∀ g', SMx (cry (sI v (51, 0) p y) nr p y) g' → (∀ j, hI g' (67, 0) j = hI g (67, 0) j) → Sm KM g g' → Q g') : p_M_carry (12, 0) (nI p) y g Q := by
  have hnr := i.vc.1
  have m0 : ShM (hS g) (hR g) := by rw [s.2.1, s.2.2, ke.2.1, ke.2.2]; exact i.m
  have d4 : nI p / (4 : Int32) = nI (p / 4) := pk_div (a := p) (d := 4) (by omega) (by omega) (by omega)
  unfold p_M_carry
  rw [mR17 m0, mS17 m0, cl_n (by omega), d4, nI_1]
  refine ⟨rfl, rfl, in_n (by omega) (by omega), fun h4 q4 v6 h6 => ?_⟩
  subst h6
  generalize hw : sI v (51, 0) p y = w at q
  have sw : SMx w h4 := by rw [q4, ← hw]; exact s.si _ _ _
  have kw : Sm KE v0 w := by rw [← hw]; exact ke.si _ (by simp [KE])
  have m4 : ShM (hS h4) (hR h4) := by rw [q4]; exact m0
  have o : ∀ k j, (34 ≤ k ∧ k < 67) ∨ 83 ≤ k → ¬ KE (k, 0) j → hI h4 (k, 0) j = hI v0 (k, 0) j := fun k j h1 h2 => by
    rw [sw.1 _ _ (Or.inl (show 34 ≤ k by omega)) (ksc_k h1), kw.1 _ _ h2]
  have o12 : ∀ j, j < 35 → hI h4 (12, 0) j = hI w (12, 0) j := fun j hj => sw.1 _ _ (Or.inr rfl) (fun z => by
    rcases z with z | z | z
    · simp at z
    · simp at z
    · simp at z; omega)
  have e0 : hI h4 (12, 0) 0 = nI nr := by rw [o12 0 (by omega), kw.1 _ _ (ke_k (by omega))]; exact i.vc.2.2.2.1
  have key : ∀ (m a : Nat), a + m = max nr (p / 4 + 1) → p / 4 + 1 ≤ a → nxr (hI w) (nr - (p / 4 + 1)) (p / 4 + 1) = nxr (hI w) m a → p_M_carry_L13 (12, 0) y (fun (h25 : xH) => ∀ h26 : xH, h26 = sI h25 (12, 0) 22 ((hI h25 (12, 0) 22) + y) → Q h26) Q (m + 1) (nI a) h4 := by
    intro m
    induction m with
    | zero =>
      intro a ha ha1 en
      unfold p_M_carry_L13
      rw [e0, le_nn (by omega) (by omega)]
      refine ⟨rfl, fun _ => fun h26 q26 => q h26 ?_ (fun j => by rw [q26, hI_sI, if_neg (by simp), q4, hI_sI, if_neg (by simp)]) (by rw [q26, q4]; exact ((Sm.rf _ g).si _ (by simp [KM])).si _ (by simp [KM])), fun z => absurd (by omega) z⟩
      unfold cry
      rw [en]
      unfold nxr cry1
      rw [q26, o12 22 (by omega)]
      exact (sw.oc ⟨by simp, by simp⟩ _ _).si _ _ _
    | succ m ih =>
      intro a ha ha1 en
      have ha12 : a < nr := by omega
      have e40 : hI w (40, 0) (4 * a + 3) = hI v0 (40, 0) (4 * a + 3) := kw.1 _ _ (ke_k (by omega))
      have e35 : hI w (35, 0) a = hI v0 (35, 0) a := kw.1 _ _ (ke_k (by omega))
      have ix : (4 : Int32) * nI a + (3 : Int32) = nI (4 * a + 3) := by rw [show (4 : Int32) = nI 4 from rfl, show (3 : Int32) = nI 3 from rfl, nI_x, nI_add]
      have un : nxr (hI w) (m + 1) a = if hI v0 (40, 0) (4 * a + 3) = 1 ∧ ¬ hI v0 (35, 0) a = 2 then some a else nxr (hI w) m (a + 1) := by
        rw [nxr, e40, e35]
      have skip : ¬ (hI v0 (40, 0) (4 * a + 3) = 1 ∧ ¬ hI v0 (35, 0) a = 2) → ∀ z : Int32, z = nI a + 1 → p_M_carry_L13 (12, 0) y (fun (h25 : xH) => ∀ h26 : xH, h26 = sI h25 (12, 0) 22 ((hI h25 (12, 0) 22) + y) → Q h26) Q (m + 1) z h4 := fun z x hx => by
        rw [hx, nI_1]
        refine ih (a + 1) (by omega) (by omega) ?_
        rw [en, un, if_neg z]
      unfold p_M_carry_L13
      rw [e0, le_nn (by omega) (by omega), mR6 m4, mS6 m4, ix, cl_n (by omega), o 40 _ (by omega) (ke_k (by omega)), mR1 m4, mS1 m4, cl_n (by omega), o 35 _ (by omega) (ke_k (by omega)), mR16 m4, mS16 m4]
      refine ⟨rfl, fun z => absurd z (by omega), fun _ => ⟨rfl, in_n (by omega) (by omega), fun nth => skip (fun w => absurd (nth.symm.trans w.1) (by decide)), fun th => ⟨rfl, in_n (by omega) (by omega), fun z => skip (fun w => w.2 z), fun z => ⟨rfl, in_n (by omega) (by omega), in_n (by omega) (by omega), fun h23 q23 => q h23 ?_ (fun j => by rw [q23, hI_sI, if_neg (by simp), q4, hI_sI, if_neg (by simp)]) (by rw [q23, q4]; exact ((Sm.rf _ g).si _ (by simp [KM])).si _ (by simp [KM]))⟩⟩⟩⟩
      have there : hI v0 (40, 0) (4 * a + 3) = 1 := (th01 i (p := 4 * a + 3) (by omega)).elim (fun z => z.1) (fun z => absurd z.1 th)
      unfold cry
      rw [en, un, if_pos ⟨there, z⟩]
      unfold cry1
      rw [q23, sw.1 (50, 0) _ (Or.inl (by simp)) (ksc_k (by omega))]
      exact (sw.oc ⟨by simp, by simp⟩ _ _).si _ _ _
  refine ⟨max nr (p / 4 + 1) - (p / 4 + 1) + 1, key _ (p / 4 + 1) (by omega) (Nat.le_refl _) ?_⟩
  congr 1
  omega
end Carry
