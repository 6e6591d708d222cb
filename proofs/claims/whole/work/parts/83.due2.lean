section Due2
variable {L : Nat} {xs : Nat → Int32} {nr nt : Nat} {v h g : xH}
theorem vmk (i : Inv L xs nr nt h) (s : Sm KS2 h g) : ∃ v, Inv L xs nr nt v ∧ SM v g ∧ Sm KS2 h v := by
  refine ⟨sI g (11, 0) 13 (hI g (12, 0) 47), i.scr2 (s.si _ (Or.inr (Or.inl ⟨rfl, rfl⟩))) (by simp [hI_sI]), ⟨fun n j hk => ?_, rfl, rfl⟩, s.si _ (Or.inr (Or.inl ⟨rfl, rfl⟩))⟩
  rw [hI_sI, if_neg (fun z => by
    have := congrArg Prod.fst z.1
    simp at this; omega)]
theorem GR0.cg {I I' : xN → Nat → Int32} {p a F G : Nat} {gl : Nat → Nat} (r : GR0 g I p a F G gl) (e : lvl I' = lvl I) : GR0 g I' p a F G gl := by
  unfold GR0 at r ⊢
  rw [e]; exact r
theorem GR0.fr {g' : xH} {I : xN → Nat → Int32} {p a F G : Nat} {gl : Nat → Nat} (r : GR0 g I p a F G gl) (e : ∀ k x, 70 ≤ k → k ≤ 73 → x < G → hI g' (k, 0) x = hI g (k, 0) x) : GR0 g' I p a F G gl := by
  obtain ⟨r2, r3, r4⟩ := r
  refine ⟨r2, r3, fun x h1 h2 => ?_⟩
  obtain ⟨A, B, C, t, e1, e2, e3, e4, e5⟩ := r4 x h1 h2
  exact ⟨A, B, C, t, e1, by rw [e 70 x (by omega) (by omega) h2]; exact e2, by rw [e 71 x (by omega) (by omega) h2]; exact e3, by rw [e 72 x (by omega) (by omega) h2]; exact e4, by rw [e 73 x (by omega) (by omega) h2]; exact e5⟩
/-- the groups of the first pools of a race -/
def GrN (g : xH) (I : xN → Nat → Int32) (nt r k : Nat) (Fk : Nat → Nat) : Prop := (∀ j, j < k → hI g (82, 0) j = nI (Fk j)) ∧ (∀ j, j ≤ k → Fk j ≤ Fk k) ∧ (∀ j, j < k → Fk j ≤ Fk (j + 1)) ∧ Fk k ≤ sm (fun j => tkc I nt (4 * r + j)) k ∧ ∀ j, j < k → I (40, 0) (4 * r + j) = 1 → ∃ gl, GR0 g I (4 * r + j) nt (Fk j) (Fk (j + 1)) gl
theorem tkc4 (I : xN → Nat → Int32) {r : Nat} (hr : r < 12) : ∀ nt, sm (fun j => tkc I nt (4 * r + j)) 4 ≤ nt
  | 0 => by simp [sm, tkc, cn]
  | nt + 1 => by
    have ih := tkc4 I hr nt
    have st : ∀ p, tkc I (nt + 1) p = tkc I nt p + (if I (58, 0) nt = nI p then 1 else 0) := fun p => by
      unfold tkc; rw [cn]
      by_cases e : I (58, 0) nt = nI p <;> simp [e]
    have ne : ∀ a b, a < 4 → b < 4 → a ≠ b → I (58, 0) nt = nI (4 * r + a) → ¬ I (58, 0) nt = nI (4 * r + b) := fun a b ha hb hab e1 e2 => hab (by
      have := (nI_inj (by omega) (by omega)).mp (e1.symm.trans e2); omega)
    simp only [sm, st] at ih ⊢
    have n01 := ne 0 1 (by omega) (by omega) (by omega)
    have n02 := ne 0 2 (by omega) (by omega) (by omega)
    have n03 := ne 0 3 (by omega) (by omega) (by omega)
    have n12 := ne 1 2 (by omega) (by omega) (by omega)
    have n13 := ne 1 3 (by omega) (by omega) (by omega)
    have n23 := ne 2 3 (by omega) (by omega) (by omega)
    by_cases e0 : I (58, 0) nt = nI (4 * r + 0)
    · rw [if_pos e0, if_neg (n01 e0), if_neg (n02 e0), if_neg (n03 e0)]; omega
    by_cases e1 : I (58, 0) nt = nI (4 * r + 1)
    · rw [if_neg e0, if_pos e1, if_neg (n12 e1), if_neg (n13 e1)]; omega
    by_cases e2 : I (58, 0) nt = nI (4 * r + 2)
    · rw [if_neg e0, if_neg e1, if_pos e2, if_neg (n23 e2)]; omega
    rw [if_neg e0, if_neg e1, if_neg e2]
    split <;> omega
theorem ex_upd (Fk : Nat → Nat) (k X : Nat) : ∃ Fn : Nat → Nat, Fn (k + 1) = X ∧ ∀ j, j ≤ k → Fn j = Fk j := ⟨fun j => if j = k + 1 then X else Fk j, by simp, fun j hj => if_neg (by omega)⟩
def KGr : xN → Nat → Prop := fun n j => KG n j ∨ n = (82, 0)
theorem sm_le4 (f : Nat → Nat) : ∀ {k m : Nat}, k ≤ m → sm f k ≤ sm f m
  | k, 0, h => by have : k = 0 := by omega
                  subst this; exact Nat.le_refl _
  | k, m + 1, h => by
    by_cases e : k = m + 1
    · rw [e]; exact Nat.le_refl _
    · have := sm_le4 f (k := k) (m := m) (by omega)
      show _ ≤ sm f m + f m
      omega
theorem w_grN (i : Inv L xs nr nt h) (s : Sm KS2 h g) {r : Nat} (hr : r < nr) {x : Int32} (e35 : hI g (12, 0) 35 = 0) {K : xH → Prop} {Q : Int32 → xH → Prop} (q : ∀ g' Fk, Sm KGr g g' → hI g' (12, 0) 35 = nI (Fk 4) → GrN g' (hI h) nt r 4 Fk → K g') : ∃ f, p_M_worst_L45 (12, 0) (nI r) x K Q f 0 g := by
  have hnr := i.vc.1
  have hnt := i.vc.2.1
  have t4 := tkc4 (hI h) (r := r) (by omega) nt
  have key : ∀ (m k : Nat) (g3 : xH) (Fk : Nat → Nat), k + m = 4 → Sm KGr g g3 → hI g3 (12, 0) 35 = nI (Fk k) → GrN g3 (hI h) nt r k Fk → p_M_worst_L45 (12, 0) (nI r) x K Q (m + 1) (nI k) g3 := by
    intro m
    induction m with
    | zero =>
      intro k g3 Fk hk S3 e35 G3
      have e : k = 4 := by omega
      subst e
      unfold p_M_worst_L45
      exact ⟨fun _ => q g3 Fk S3 e35 G3, fun z => absurd (by decide) z⟩
    | succ m ih =>
      intro k g3 Fk hk S3 e35 G3
      have hk4 : k < 4 := by omega
      obtain ⟨p48, kp, dp, ep⟩ := p4 (r := r) (k := k) (by omega) hk4
      have hp : 4 * r + k < 49 := by omega
      have l4 : ¬ (4 : Int32) ≤ nI k := by
        rw [ti_le, ti_n (by omega), show (4 : Int32).toInt = 4 from rfl]; omega
      have SK : Sm KS2 h g3 := s.tr (S3.mono (fun n j z => Or.inl (z.elim (kx_G n j) (fun z => Or.inl (by simp [z])))))
      have m3 : ShM (hS g3) (hR g3) := by rw [SK.2.1, SK.2.2]; exact i.m
      obtain ⟨c1, c2, c3, c4, c5⟩ := G3
      have tk1 := sm_le4 (fun j => tkc (hI h) nt (4 * r + j)) (k := k + 1) (m := 4) (by omega)
      have tk2 : sm (fun j => tkc (hI h) nt (4 * r + j)) (k + 1) = sm (fun j => tkc (hI h) nt (4 * r + j)) k + tkc (hI h) nt (4 * r + k) := rfl
      unfold p_M_worst_L45
      rw [mR48 m3, mS48 m3, cl_n (by omega), e35, ep]
      refine ⟨fun z => absurd z l4, fun _ => ⟨rfl, rfl, in_n (by omega) (by omega), fun h17 q17 => ?_⟩⟩
      have S17 : Sm KGr g h17 := by rw [q17]; exact S3.si _ (Or.inr rfl)
      have SK17 : Sm KS2 h h17 := by rw [q17]; exact SK.si _ (Or.inl (Or.inl (by simp)))
      have m17 : ShM (hS h17) (hR h17) := by rw [q17]; exact m3
      have a40 : hI h17 (40, 0) = hI h (40, 0) := (scr2_eq SK17).2.2.2.2.2.2.1
      have a35 : hI h17 (12, 0) 35 = nI (Fk k) := by rw [q17, hI_sI, if_neg (by simp)]; exact e35
      have a82 : ∀ j, j < k + 1 → hI h17 (82, 0) j = nI (Fk j) := fun j hj => by
        rw [q17, hI_sI]
        by_cases e : j = k
        · rw [if_pos ⟨rfl, e⟩, e]
        · rw [if_neg (fun z => e z.2)]; exact c1 j (by omega)
      have aG : ∀ j, j < k → hI h (40, 0) (4 * r + j) = 1 → ∃ gl, GR0 h17 (hI h) (4 * r + j) nt (Fk j) (Fk (j + 1)) gl := fun j hj th => by
        obtain ⟨gl, z⟩ := c5 j hj th
        exact ⟨gl, z.fr (fun n y h1 h2 _ => by rw [q17, hI_sI, if_neg (fun w => by have := congrArg Prod.fst w.1; simp at this; omega)])⟩
      rw [mR6 m17, mS6 m17, cl_n (by omega), a40]
      refine ⟨rfl, in_n (by omega) (by omega), fun nth y hy => ?_, fun th => ?_⟩
      · rw [hy, nI_1]
        obtain ⟨Fn, n1, n2⟩ := ex_upd Fk k (Fk k)
        refine ih (k + 1) h17 Fn (by omega) S17 (by rw [n1]; exact a35) ⟨fun j hj => ?_, fun j hj => ?_, fun j hj => ?_, ?_, fun j hj th => ?_⟩
        · rw [n2 j (by omega)]; exact a82 j hj
        · by_cases e : j = k + 1
          · rw [e]; exact Nat.le_refl _
          · rw [n1, n2 j (by omega)]; exact c2 j (by omega)
        · by_cases e : j = k
          · rw [e, n1, n2 k (by omega)]; exact Nat.le_refl _
          · rw [n2 j (by omega), n2 (j + 1) (by omega)]; exact c3 j (by omega)
        · rw [n1]; omega
        · by_cases e : j = k
          · rw [e] at th; exact absurd (nth.symm.trans th) (by decide)
          · rw [n2 j (by omega), n2 (j + 1) (by omega)]
            exact aG j (by omega) th
      · have there : hI h (40, 0) (4 * r + k) = 1 := (th01 i hp).elim (fun z => z.1) (fun z => absurd z.1 th)
        obtain ⟨v, iv, sv, kv⟩ := vmk i SK17
        have Ev := scr2_eq kv
        refine w_group iv sv hp a35 (by rw [Ev.2.2.2.2.2.1]; omega) (fun g24 G gl S24 old r24 => ?_)
        intro y hy
        rw [hy, nI_1]
        have le : G - Fk k ≤ tkc (hI h) nt (4 * r + k) := by
          rw [← Ev.2.2.2.2.2.1]
          exact en_le2 r24.2.2.1 (fun l _ z => z)
        have ge := r24.2.1
        have r0 : GR0 g24 (hI h) (4 * r + k) nt (Fk k) G gl := r24.to0.cg Ev.1.symm
        obtain ⟨Fn, n1, n2⟩ := ex_upd Fk k G
        refine ih (k + 1) g24 Fn (by omega) (S17.tr (S24.mono (fun n j z => Or.inl z))) (by rw [n1]; exact r24.1) ⟨fun j hj => ?_, fun j hj => ?_, fun j hj => ?_, ?_, fun j hj th => ?_⟩
        · rw [n2 j (by omega), S24.1 _ _ (by simp [KG])]; exact a82 j hj
        · by_cases e : j = k + 1
          · rw [e]; exact Nat.le_refl _
          · rw [n1, n2 j (by omega)]; have := c2 j (by omega); omega
        · by_cases e : j = k
          · rw [e, n1, n2 k (by omega)]; exact ge
          · rw [n2 j (by omega), n2 (j + 1) (by omega)]; exact c3 j (by omega)
        · rw [n1]; omega
        · by_cases e : j = k
          · subst e
            rw [n1, n2 j (by omega)]
            exact ⟨gl, r0⟩
          · rw [n2 j (by omega), n2 (j + 1) (by omega)]
            obtain ⟨gl', z⟩ := aG j (by omega) th
            exact ⟨gl', z.fr (fun n y h1 h2 h3 => old n y h1 h2 (by have := c2 (j + 1) (by omega); omega))⟩
  exact ⟨5, key 4 0 g (fun _ => 0) (by omega) (Sm.rf _ g) e35 ⟨fun j hj => by omega, fun j hj => Nat.le_refl _, fun j hj => by omega, Nat.zero_le _, fun j hj => by omega⟩⟩
theorem fg_due {g' : xH} {k M F G : Nat} {U : Nat → Nat} {W : Nat → Bool} {gl : Nat → Nat} {lu un de ci : Int32} (r : FgR g' k M U W F G gl lu un de ci) : hI g' (12, 0) 45 = if zN M U W = 0 then 0 else zU k M U W lu un de ci := by
  by_cases z : zN M U W = 0
  · rw [if_pos z]; exact r.2.2.2.1 z
  · rw [if_neg z]; exact (r.2.2.2.2 z).1
theorem w_dueNow (i : Inv L xs nr nt h) (s : Sm KS2 h g) {r : Nat} (hr : r < nr) (st : ¬ hI h (35, 0) r = 2) {Fk at1 : Nat → Nat} (gr : GrN g (hI h) nt r 4 Fk) (e4 : hI g (82, 0) 4 = nI (Fk 4)) (A : AtH g (67, 0) at1) {Q : Int32 → xH → Prop} (q : ∀ g', Sm KF g g' → Q (psm (dueK h nt r at1) 4) g') : p_M_dueNow (12, 0) (nI r) g Q := by
  have hnr := i.vc.1
  have hnt := i.vc.2.1
  have t4 := tkc4 (hI h) (r := r) (by omega) nt
  obtain ⟨c1, c2, c3, c4, c5⟩ := gr
  have F4 : Fk 4 ≤ 200 := by omega
  have c1' : ∀ j, j ≤ 4 → hI g (82, 0) j = nI (Fk j) := fun j hj => if e : j = 4 then by rw [e]; exact e4 else c1 j (by omega)
  unfold p_M_dueNow
  have key : ∀ (m k : Nat) (g3 : xH), k + m = 4 → Sm KF g g3 → p_M_dueNow_L4 (12, 0) (nI r) (fun x h => Q x h) Q (m + 1) (psm (dueK h nt r at1) k) (nI k) g3 := by
    intro m
    induction m with
    | zero =>
      intro k g3 hk S3
      have e : k = 4 := by omega
      subst e
      unfold p_M_dueNow_L4
      exact ⟨fun _ => q g3 S3, fun z => absurd (by decide) z⟩
    | succ m ih =>
      intro k g3 hk S3
      have hk4 : k < 4 := by omega
      obtain ⟨p48, kp, dp, ep⟩ := p4 (r := r) (k := k) (by omega) hk4
      have hp : 4 * r + k < 49 := by omega
      have l4 : ¬ (4 : Int32) ≤ nI k := by
        rw [ti_le, ti_n (by omega), show (4 : Int32).toInt = 4 from rfl]; omega
      have SK : Sm KS2 h g3 := s.tr (S3.mono (fun n j z => Or.inl (kx_F n j z)))
      have m3 : ShM (hS g3) (hR g3) := by rw [SK.2.1, SK.2.2]; exact i.m
      have a40 : hI g3 (40, 0) = hI h (40, 0) := (scr2_eq SK).2.2.2.2.2.2.1
      have a82 : ∀ j, j ≤ 4 → hI g3 (82, 0) j = nI (Fk j) := fun j hj => by rw [S3.1 _ _ (by simp [KF])]; exact c1' j hj
      have step : psm (dueK h nt r at1) (k + 1) = psm (dueK h nt r at1) k + dueK h nt r at1 k := rfl
      unfold p_M_dueNow_L4
      rw [mR6 m3, mS6 m3, ep, cl_n (by omega), a40, mR48 m3, mS48 m3, nI_1, cl_n (by omega), cl_n (by omega), a82 k (by omega), a82 (k + 1) (by omega)]
      refine ⟨fun z => absurd z l4, fun _ => ⟨rfl, rfl, in_n (by omega) (by omega), fun nth y hy => ?_, fun th => ⟨rfl, in_n (by omega) (by omega), in_n (by omega) (by omega), ?_⟩⟩⟩
      · have ed : dueK h nt r at1 k = 0 := by unfold dueK; rw [if_neg (by rw [nth]; decide)]
        have := ih (k + 1) g3 (by omega) S3
        rw [step, ed, Int32.add_zero] at this
        rw [hy]; exact this
      · have there : hI h (40, 0) (4 * r + k) = 1 := (th01 i hp).elim (fun z => z.1) (fun z => absurd z.1 th)
        obtain ⟨un, de, ca, B⟩ := bk i hp there (uns_of i hp there (by rw [frp4 (by omega) hk4]; exact st))
        obtain ⟨v, iv, sv, kv⟩ := vmk i SK
        have Ev := scr2_eq kv
        obtain ⟨gl, r0⟩ := c5 k hk4 there
        have r3 : GR0 g3 (hI v) (4 * r + k) nt (Fk k) (Fk (k + 1)) gl := (r0.fr (fun n x h1 h2 _ => S3.1 _ _ (fun z => by
          rcases z with z | z
          · have := congrArg Prod.fst z.1; simp at this; omega
          · have := congrArg Prod.fst z; simp at this; omega))).cg Ev.1
        have A3 : AtH g3 (67, 0) at1 := ⟨rfl, mS33 m3, fun x hx => by rw [S3.1 _ _ (by simp [KF])]; exact A.2.2 x hx⟩
        refine w_fgI iv sv hp (by rw [Ev.2.2.2.2.2.2.1]; exact there) (Ev.2.2.2.2.1 _ _ _ _ _ _ B) (at2 := fun _ => 0) r3 (by have := c2 (k + 1) (by omega); omega) A3 (fun e => absurd e (by rw [kp]; omega)) (fun g11 S11 fg => ?_)
        intro w hw y hy
        have d := fg_due fg
        rw [Ev.1, Ev.2.2.1, Ev.2.2.2.1, frp4 (by omega) hk4] at d
        have ed : dueK h nt r at1 k = if zN (lls (4 * r + k)) (lvl (hI h) nt (4 * r + k)) (Wc (kf (4 * r + k)) (rnOf h r) at1 (fun _ => 0)) = 0 then 0 else zU (kf (4 * r + k)) (lls (4 * r + k)) (lvl (hI h) nt (4 * r + k)) (Wc (kf (4 * r + k)) (rnOf h r) at1 (fun _ => 0)) (nI (lvu (hI h) nt (4 * r + k))) (nI un) (nI de) (nI ca) := by
          unfold dueK dueP
          rw [if_pos there, B.2.1, B.2.2.1, B.2.2.2.1]
        rw [hw, hy, d, ← ed, ← step]
        exact ih (k + 1) g11 (by omega) (S3.tr S11)
  exact ⟨5, key 4 0 g (by omega) (Sm.rf _ g)⟩
end Due2
