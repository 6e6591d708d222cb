section Due
variable {L : Nat} {xs : Nat → Int32} {nr nt : Nat} {v h g : xH}
/-- what Inv doesn't read, and the most that is due -/
def KS2 : xN → Nat → Prop := fun n j => KSc n j ∨ (n = (11, 0) ∧ j = 13) ∨ (n = (12, 0) ∧ j = 47)
theorem Inv.scr2 {h' : xH} (i : Inv L xs nr nt h) (s : Sm KS2 h h') (e : hI h' (11, 0) 13 = hI h' (12, 0) 47) : Inv L xs nr nt h' := by
  generalize hx : hI h' (12, 0) 47 = x at e
  have i0 : Inv L xs nr nt (sI (sI h (11, 0) 13 x) (12, 0) 47 x) := by
    have vn := i.vn
    refine i.updD [] [((11, 0), 13), ((12, 0), 47)] (((Sm.rf _ h).si _ (by simp [KK])).si _ (by simp [KK])) (vn := Or.inr ⟨?_, ?_, ?_, ?_, fun f hf => ?_⟩)
    · simp [hI_sI]; exact vn.1
    · simp [hI_sI]
    · simp [hI_sI]; exact vn.2.2.1
    · simp [hI_sI]; exact vn.2.2.2.1
    · simp [hI_sI]; exact vn.2.2.2.2 f hf
  refine i0.scr ⟨fun n j k => ?_, s.2.1, s.2.2⟩
  rw [hI_sI, hI_sI]
  by_cases e1 : n = (12, 0) ∧ j = 47
  · rw [if_pos e1, e1.1, e1.2, hx]
  · rw [if_neg e1]
    by_cases e2 : n = (11, 0) ∧ j = 13
    · rw [if_pos e2, e2.1, e2.2, e]
    · rw [if_neg e2]
      exact s.1 n j (fun z => z.elim k (fun z => z.elim e2 e1))
theorem scr2_eq {h' : xH} (s : Sm KS2 h h') : lvl (hI h') = lvl (hI h) ∧ lvu (hI h') = lvu (hI h) ∧ rnOf h' = rnOf h ∧ frp (hI h') = frp (hI h) ∧ (∀ nt p lu un de ca, Bk h nt p lu un de ca → Bk h' nt p lu un de ca) ∧ tkc (hI h') = tkc (hI h) ∧ hI h' (40, 0) = hI h (40, 0) ∧ hI h' (35, 0) = hI h (35, 0) ∧ hI h' (43, 0) = hI h (43, 0) := by
  have o : ∀ k, k = 58 ∨ k = 59 ∨ k = 60 ∨ k = 61 ∨ k = 62 ∨ k = 63 ∨ k = 38 ∨ k = 36 ∨ k = 41 ∨ k = 42 ∨ k = 50 ∨ k = 40 ∨ k = 35 ∨ k = 43 → hI h' (k, 0) = hI h (k, 0) := fun k hk => funext (fun j => s.1 _ _ (fun z => by
    rcases z with (z | z | z) | z | z
    · simp at z; omega
    · simp at z
    · simp at z; omega
    · simp at z; omega
    · simp at z; omega))
  have e1 := o 58 (by simp); have e2 := o 59 (by simp); have e3 := o 60 (by simp); have e4 := o 61 (by simp); have e5 := o 62 (by simp); have e6 := o 63 (by simp); have e7 := o 38 (by simp); have e8 := o 36 (by simp)
  have x1 : lvl (hI h') = lvl (hI h) := by funext nt p l; unfold lvl tl; rw [e1, e2, e3, e4, e5, e6]
  have x2 : lvu (hI h') = lvu (hI h) := by funext nt p; unfold lvu; rw [e1, e5, e6]
  refine ⟨x1, x2, ?_, ?_, fun nt p lu un de ca b => ?_, ?_, o 40 (by simp), o 35 (by simp), o 43 (by simp)⟩
  · funext r; unfold rnOf; rw [e7, e8]
  · funext p; unfold frp
    rw [s.1 (12, 0) 10 (fun z => by
      rcases z with (z | z | z) | z | z
      · simp at z
      · simp at z
      · simp at z
      · simp at z
      · simp at z)]
  · obtain ⟨b1, b2, b3, b4, b5⟩ := b
    exact ⟨by rw [x2]; exact b1, by rw [o 42 (by simp)]; exact b2, by rw [o 41 (by simp)]; exact b3, by rw [o 50 (by simp)]; exact b4, b5⟩
  · funext nt p; unfold tkc; rw [e1]
/-- what a pool pays if a race comes so -/
noncomputable def dueP (v : xH) (nt p rn : Nat) (at1 : Nat → Nat) : Int32 := if zN (lls p) (lvl (hI v) nt p) (Wc (kf p) rn at1 (fun _ => 0)) = 0 then 0 else zU (kf p) (lls p) (lvl (hI v) nt p) (Wc (kf p) rn at1 (fun _ => 0)) (nI (lvu (hI v) nt p)) (hI v (42, 0) p) (hI v (41, 0) p) (hI v (50, 0) p)
noncomputable def dueK (v : xH) (nt r : Nat) (at1 : Nat → Nat) (k : Nat) : Int32 := if hI v (40, 0) (4 * r + k) = 1 then dueP v nt (4 * r + k) (rnOf v r) at1 else 0
theorem p4 {r k : Nat} (hr : r < 12) (hk : k < 4) : 4 * r + k < 48 ∧ kf (4 * r + k) = k ∧ (4 * r + k) / 4 = r ∧ (4 : Int32) * nI r + nI k = nI (4 * r + k) := by
  refine ⟨by omega, ?_, by omega, ?_⟩
  · unfold kf; rw [if_neg (by omega)]; omega
  · rw [show (4 : Int32) = nI 4 from rfl, nI_x, nI_add]
theorem frp4 {I : xN → Nat → Int32} {r k : Nat} (hr : r < 12) (hk : k < 4) : frp I (4 * r + k) = r := by
  unfold frp; rw [if_neg (by omega)]; omega
theorem th01 {qq : Prop} (i : InvQ qq L xs nr nt v) {p : Nat} (hp : p < 49) : hI v (40, 0) p = 1 ∧ hR v (28, 0) p = (5, p) ∨ hI v (40, 0) p = 0 ∧ hR v (28, 0) p = (0, 0) :=
  (i.sp p hp).imp (fun z => ⟨z.1, z.2.1⟩) (fun z => ⟨z.1, z.2.1⟩)
theorem rk_due {h' : xH} {k M : Nat} {U : Nat → Nat} {W : Nat → Bool} {vo : Prop} {lu un de ci : Int32} (r : RkR h' k M U W vo lu un de ci) (hv : vo → zN M U W = 0) : hI h' (8, 0) 8 = if zN M U W = 0 then 0 else zU k M U W lu un de ci := by
  obtain ⟨ln, en, t, r⟩ := r
  rcases r with ⟨r1, -, -, -, -, -, r8⟩ | ⟨r1, z, -, -, -, -, -, r8⟩ | ⟨r1, z, -, -, -, -, -, r8, -⟩
  · rw [if_pos (r1.elim hv (fun z => z.1)), r8]
  · rw [if_pos z, r8]
  · rw [if_neg z, r8]
/-- nobody wins where it is void -/
theorem zN_void {k M rn : Nat} {U : Nat → Nat} {at1 at2 : Nat → Nat} (hv : vd k rn) : zN M U (Wc k rn at1 at2) = 0 := by
  unfold zN
  have : ∀ l, l < M → (Wc k rn at1 at2 l && decide (0 < U l)) = false := fun l _ => by
    have : Wc k rn at1 at2 l = false := by
      unfold Wc
      exact (@decide_eq_false_iff_not _ (Classical.propDecidable _)).mpr (fun ⟨a, b, c, z⟩ => z.2.2.1 hv)
    rw [this]; rfl
  rw [cn_congr (g := fun _ => false) M this]
  clear this
  induction M with
  | zero => rfl
  | succ M ih => unfold cn; rw [ih]; rfl
theorem FiH.fr9 {f cnt : Nat} {ru ps : Nat → Nat} {h' : xH} (P : FiH h f cnt ru ps) (s : Sm K9 h h') : FiH h' f cnt ru ps := by
  obtain ⟨f1, f2, f3, f4, f5, f6, f7⟩ := P
  have o : ∀ k j, k = 4 ∨ k = 15 ∨ k = 16 → hI h' (k, f) j = hI h (k, f) j := fun k j hk => s.1 _ _ (fun z => by
    rcases z with z | z | z
    · have := congrArg Prod.fst z.1; simp at this; omega
    · have := congrArg Prod.fst z; simp at this; omega
    · have := congrArg Prod.fst z; simp at this; omega)
  exact ⟨by rw [o 4 _ (by simp)]; exact f1, f2, by rw [s.2.2]; exact f3, by rw [s.2.2]; exact f4, by rw [s.2.1]; exact f5, by rw [s.2.1]; exact f6, fun i hi => by rw [o 15 _ (by simp), o 16 _ (by simp)]; exact f7 i hi⟩
/-- the class's scratch, and its most due -/
def KW : xN → Nat → Prop := fun n j => KSk n j ∨ (n = (11, 0) ∧ j = 13)
theorem w_dueIf (i : Inv L xs nr nt h) {h' : xH} (s : Sm KW h h') {r a b c : Nat} (hr : r < nr) (st : ¬ hI h (35, 0) r = 2) (a1 : 1 ≤ a) (ha : a ≤ 12) (b1 : 1 ≤ b) (hb : b ≤ 12) (hc : c ≤ 12) (ab : a ≠ b) (ac : a ≠ c) (bc : b ≠ c) {Q : Int32 → xH → Prop} (q : ∀ h2, Sm KSk h' h2 → Q (psm (dueK h nt r (sat a b c)) 4) h2) : p_T_dueIf (11, 0) (nI r) (6, r) (nI a) (nI b) (nI c) h' Q := by
  have hnr := i.vc.1
  have rr := rn_of i hr
  have e6 : hI h' (6, r) 6 = nI (rnOf h r) := by
    rw [s.1 _ _ (fun z => by rcases z with (z | z) | z <;> simp at z)]; exact rr.1
  have x' : ShX (hS h') (hR h') := by rw [s.2.1, s.2.2]; exact i.x
  unfold p_T_dueIf
  refine ⟨rfl, w_suppC x' e6 a1 ha b1 hb hc ab ac bc (fun h2 cnt ru ps S2 e3 F A => ⟨5, ?_⟩)⟩
  have key : ∀ (m k : Nat) (h3 : xH), k + m = 4 → Sm K9 h2 h3 → p_T_dueIf_L16 (11, 0) (nI r) (fun x h => Q x h) Q (m + 1) (psm (dueK h nt r (sat a b c)) k) (nI k) h3 := by
    intro m
    induction m with
    | zero =>
      intro k h3 hk S3
      have e : k = 4 := by omega
      subst e
      unfold p_T_dueIf_L16
      exact ⟨fun _ => q h3 ((S2.mono kk_fi).tr (S3.mono kk_9)), fun z => absurd (by decide) z⟩
    | succ m ih =>
      intro k h3 hk S3
      have hk4 : k < 4 := by omega
      obtain ⟨p48, kp, dp, ep⟩ := p4 (r := r) (k := k) (by omega) hk4
      have hp : 4 * r + k < 49 := by omega
      have Sh3 : Sm KW h h3 := s.tr (((S2.mono kk_fi).tr (S3.mono kk_9)).mono (fun n j z => Or.inl z))
      -- the virtual heap
      generalize hv3 : sI h3 (12, 0) 47 (hI h3 (11, 0) 13) = v3
      have V3 : Sm KS2 h v3 := by
        rw [← hv3]
        exact (Sh3.mono (fun n j z => z.elim (fun z => Or.inl (ksk_x n j z)) (fun z => Or.inr (Or.inl z)))).si _ (Or.inr (Or.inr ⟨rfl, rfl⟩))
      have i3 : Inv L xs nr nt v3 := i.scr2 V3 (by rw [← hv3]; simp [hI_sI])
      have sc : SC v3 h3 := by
        rw [← hv3]
        exact ⟨fun n j h1 h2 => by rw [hI_sI, if_neg (fun z => h2 (congrArg Prod.fst z.1))], rfl, rfl⟩
      have E3 := scr2_eq V3
      have x3 := SC.x i3 sc
      have l3 : ¬ (3 : Int32) < nI k := by
        rw [ti_lt, ti_n (by omega), show (3 : Int32).toInt = 3 from rfl]; omega
      have th := th01 i hp
      have R28 : hR h3 (28, 0) = hR h (28, 0) := by rw [Sh3.2.2]
      unfold p_T_dueIf_L16 p_T_poolNumber
      refine ⟨fun z => absurd z l3, fun _ => ⟨rfl, ?_⟩⟩
      show _ ∧ _
      rw [xR_11_0_1 x3, xS_28_0 x3, ep, cl_n (by omega), R28, xR_11_0_6 x3, xR_11_0_7 x3]
      refine ⟨rfl, in_n (by omega) (by omega), fun w hw => ?_⟩
      have step : psm (dueK h nt r (sat a b c)) (k + 1) = psm (dueK h nt r (sat a b c)) k + dueK h nt r (sat a b c) k := rfl
      rcases th with ⟨there, e28⟩ | ⟨nth, e28⟩
      · rw [e28] at hw
        subst hw
        obtain ⟨un, de, ca, B⟩ := bk i hp there (uns_of i hp there (by rw [frp4 (by omega) hk4]; exact st))
        refine ⟨fun z => absurd z (by simp), fun _ => ⟨rfl, w_rkI i3 sc hp (by rw [E3.2.2.2.2.2.2.1]; exact there) (E3.2.2.2.2.1 _ _ _ _ _ _ B) (at2 := fun _ => 0) (F.fr9 S3) (F.fr9 S3) rr.2 (by rw [S3.1 _ _ (by simp [K9])]; exact e3) A (fun e => absurd e (by rw [kp]; omega)) (fun h15 S15 rk => ?_)⟩⟩
        have x15 : hR h15 (11, 0) 7 = (8, 0) := by rw [S15.2.2]; exact xR_11_0_7 x3
        show _ ∧ _
        rw [x15]
        refine ⟨rfl, fun w hw y hy => ?_⟩
        have d := rk_due rk zN_void
        rw [E3.1] at d
        rw [hw, hy, nI_1, d]
        have ed : dueK h nt r (sat a b c) k = if zN (lls (4 * r + k)) (lvl (hI h) nt (4 * r + k)) (Wc (kf (4 * r + k)) (rnOf h r) (sat a b c) (fun _ => 0)) = 0 then 0 else zU (kf (4 * r + k)) (lls (4 * r + k)) (lvl (hI h) nt (4 * r + k)) (Wc (kf (4 * r + k)) (rnOf h r) (sat a b c) (fun _ => 0)) (nI (lvu (hI h) nt (4 * r + k))) (nI un) (nI de) (nI ca) := by
          unfold dueK dueP
          rw [if_pos there, B.2.1, B.2.2.1, B.2.2.2.1]
        rw [← ed, ← step]
        exact ih (k + 1) h15 (by omega) (S3.tr S15)
      · rw [e28] at hw
        subst hw
        refine ⟨fun _ y hy => ?_, fun z => absurd rfl z⟩
        rw [hy, nI_1]
        have ed : dueK h nt r (sat a b c) k = 0 := by
          unfold dueK; rw [if_neg (by rw [nth]; decide)]
        have := ih (k + 1) h3 (by omega) S3
        rw [step, ed, Int32.add_zero] at this
        exact this
  exact key 4 0 h2 (by omega) (Sm.rf _ h2)
end Due
