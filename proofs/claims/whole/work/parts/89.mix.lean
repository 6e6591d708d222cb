section Mix
variable {qq : Prop} {L : Nat} {xs : Nat → Int32} {nr nt : Nat} {v h g : xH}
/-- a heap with other ints -/
def ovH (v : xH) (f : xN → Nat → Int32) : xH := (v.1, f, v.2.2)
/-- as SC and SM, but for the scratch -/
def SCx (v h : xH) : Prop := (∀ n j, n.1 < 34 → n.1 ≠ 12 → ¬ KSk n j → hI h n j = hI v n j) ∧ hS h = hS v ∧ hR h = hR v
def SMx (v g : xH) : Prop := (∀ n j, 34 ≤ n.1 ∨ n.1 = 12 → ¬ KSc n j → hI g n j = hI v n j) ∧ hS g = hS v ∧ hR g = hR v
theorem SC.x' (s : SC v h) : SCx v h := ⟨fun n j h1 h2 _ => s.1 n j h1 h2, s.2.1, s.2.2⟩
theorem SM.x' (s : SM v g) : SMx v g := ⟨fun n j h1 _ => s.1 n j h1, s.2.1, s.2.2⟩
theorem SCx.up (i : InvQ qq L xs nr nt v) (s : SCx v h) : ∃ w, InvQ qq L xs nr nt w ∧ SC w h ∧ Sm KSc v w := by
  have := Classical.propDecidable
  refine ⟨ovH v (fun n j => if KSk n j then hI h n j else hI v n j), ?_, ⟨fun n j h1 h2 => ?_, s.2.1, s.2.2⟩, ?_⟩
  · exact i.scr ⟨fun n j k => if_neg (fun z => k (ksk_x n j z)), rfl, rfl⟩
  · show hI h n j = if KSk n j then hI h n j else hI v n j
    by_cases c : KSk n j
    · rw [if_pos c]
    · rw [if_neg c]; exact s.1 n j h1 h2 c
  · exact ⟨fun n j k => if_neg (fun z => k (ksk_x n j z)), rfl, rfl⟩
theorem SMx.up (i : InvQ qq L xs nr nt v) (s : SMx v g) : ∃ w, InvQ qq L xs nr nt w ∧ SM w g ∧ Sm KSc v w := by
  have := Classical.propDecidable
  refine ⟨ovH v (fun n j => if KSc n j ∧ (34 ≤ n.1 ∨ n.1 = 12) then hI g n j else hI v n j), ?_, ⟨fun n j h1 => ?_, s.2.1, s.2.2⟩, ?_⟩
  · exact i.scr ⟨fun n j k => if_neg (fun z => k z.1), rfl, rfl⟩
  · show hI g n j = if KSc n j ∧ (34 ≤ n.1 ∨ n.1 = 12) then hI g n j else hI v n j
    by_cases c : KSc n j
    · rw [if_pos ⟨c, h1⟩]
    · rw [if_neg (fun z => c z.1)]; exact s.1 n j h1 c
  · exact ⟨fun n j k => if_neg (fun z => k z.1), rfl, rfl⟩
theorem SCx.si (s : SCx v h) (n : xN) (j : Nat) (a : Int32) : SCx (sI v n j a) (sI h n j a) := ⟨fun n' j' h1 h2 h3 => by
  rw [hI_sI, hI_sI]
  split
  · rfl
  · exact s.1 n' j' h1 h2 h3, s.2.1, s.2.2⟩
theorem SMx.si (s : SMx v h) (n : xN) (j : Nat) (a : Int32) : SMx (sI v n j a) (sI h n j a) := ⟨fun n' j' h1 h3 => by
  rw [hI_sI, hI_sI]
  split
  · rfl
  · exact s.1 n' j' h1 h3, s.2.1, s.2.2⟩
theorem SCx.om (s : SCx v h) {n : xN} (hn : 34 ≤ n.1 ∨ n.1 = 12) (j : Nat) (a : Int32) : SCx (sI v n j a) h := ⟨fun n' j' h1 h2 h3 => by
  rw [hI_sI, if_neg (fun z => by rw [z.1] at h1 h2; omega)]
  exact s.1 n' j' h1 h2 h3, s.2.1, s.2.2⟩
theorem SMx.oc (s : SMx v h) {n : xN} (hn : n.1 < 34 ∧ n.1 ≠ 12) (j : Nat) (a : Int32) : SMx (sI v n j a) h := ⟨fun n' j' h1 h3 => by
  rw [hI_sI, if_neg (fun z => by rw [z.1] at h1; omega)]
  exact s.1 n' j' h1 h3, s.2.1, s.2.2⟩
theorem SCx.tr {h' : xH} (s : SCx v h) (z : Sm KSk h h') : SCx v h' := ⟨fun n j h1 h2 h3 => (z.1 n j h3).trans (s.1 n j h1 h2 h3), z.2.1.trans s.2.1, z.2.2.trans s.2.2⟩
theorem SMx.tr {g' : xH} (s : SMx v g) (z : Sm KSc g g') : SMx v g' := ⟨fun n j h1 h3 => (z.1 n j h3).trans (s.1 n j h1 h3), z.2.1.trans s.2.1, z.2.2.trans s.2.2⟩
theorem SCx.i (s : SCx v h) (k m j : Nat) (hk : k < 34 ∧ k ≠ 12) (hs : ¬ KSk (k, m) j) : hI h (k, m) j = hI v (k, m) j := s.1 _ _ hk.1 hk.2 hs
theorem ksk_k {k m j : Nat} (h : k ≠ 8 ∧ k ≠ 24 ∧ k ≠ 25 ∧ k ≠ 4 ∧ k ≠ 15 ∧ k ≠ 16) : ¬ KSk (k, m) j := fun z => by
  rcases z with z | z
  · simp at z; omega
  · have := z.1; simp at this; omega
theorem ksc_k {k j : Nat} (h : (34 ≤ k ∧ k < 67) ∨ 83 ≤ k) : ¬ KSc (k, 0) j := fun z => by
  rcases z with z | z | z
  · simp at z; omega
  · have := z.1; simp at this; omega
  · have := congrArg Prod.fst z.1; simp at this; omega
theorem TkF.sc {w : xH} {t p a b c u : Nat} (s : Sm KSc v w) (k : TkF (hI v) t p a b c u) : TkF (hI w) t p a b c u := by
  have o : ∀ k j, (34 ≤ k ∧ k < 67) ∨ 83 ≤ k → hI w (k, 0) j = hI v (k, 0) j := fun k j hk => s.1 _ _ (ksc_k hk)
  have o10 : ∀ j, hI w (10, t) j = hI v (10, t) j := fun j => s.1 _ _ (fun z => by
    rcases z with z | z | z
    · simp at z
    · simp at z
    · simp at z)
  unfold TkF at k ⊢
  rw [o 58 _ (by omega), o 59 _ (by omega), o 60 _ (by omega), o 61 _ (by omega), o 62 _ (by omega), o 63 _ (by omega), o 64 _ (by omega), o 66 _ (by omega), o 40 _ (by omega), o 43 _ (by omega), o10, o10, o10, o10, o10, o10]
  exact k
theorem skI_sc {w : xH} (s : Sm KSc v w) (t : Nat) : skI (hI w) t = skI (hI v) t := by
  unfold skI
  rw [s.1 (62, 0) _ (ksc_k (by omega)), s.1 (58, 0) _ (ksc_k (by omega)), s.1 (42, 0) _ (ksc_k (by omega))]
/-- refunds of one pool -/
def rf1 (p : Nat) (w : xH) (t : Nat) : xH := if hI w (58, 0) t = nI p ∧ hI w (63, 0) t = 0 then refv w t else w
def rfs (p : Nat) (v : xH) : Nat → xH
  | 0 => v
  | t + 1 => rf1 p (rfs p v t) t
theorem rf1_inv (i : InvQ qq L xs nr nt v) {t p : Nat} (ht : t < nt) (hp : p < 49) (uns : hI v (43, 0) p = 0) : InvQ qq L xs nr nt (rf1 p v t) ∧ Sm (KK [17, 5, 19, 10, 63, 48] []) v (rf1 p v t) := by
  unfold rf1
  by_cases c : hI v (58, 0) t = nI p ∧ hI v (63, 0) t = 0
  · rw [if_pos c]
    obtain ⟨p', A, B, C, u, k⟩ := tkf i ht
    have e : p' = p := (nI_inj (by have := k.p49; omega) (by omega)).mp (k.pool.symm.trans c.1)
    subst e
    exact ⟨refv_inv i ht k c.2 uns, refv_sm v t⟩
  · rw [if_neg c]; exact ⟨i, Sm.rf _ v⟩
theorem rfs_inv (i : InvQ qq L xs nr nt v) {p : Nat} (hp : p < 49) (uns : hI v (43, 0) p = 0) : ∀ t, t ≤ nt → InvQ qq L xs nr nt (rfs p v t) ∧ Sm (KK [17, 5, 19, 10, 63, 48] []) v (rfs p v t)
  | 0, _ => ⟨i, Sm.rf _ v⟩
  | t + 1, ht => by
    obtain ⟨a, b⟩ := rfs_inv i hp uns t (by omega)
    obtain ⟨c, d⟩ := rf1_inv a (t := t) (by omega) hp (by rw [b.1 _ _ (by simp [KK])]; exact uns)
    exact ⟨c, b.tr d⟩
theorem SCx.ref (s : SCx v h) {t p a b c u : Nat} (k : TkF (hI v) t p a b c u) : SCx (refv v t) (eC h t p (lin (kf p) a b c) 2 (nI u) 2 (skI (hI v) t)) := by
  rw [refv_eq k]
  unfold eM
  refine SCx.om (SCx.om ?_ (Or.inl (by simp)) _ _) (Or.inl (by simp)) _ _
  unfold eC
  rw [s.i 17 p _ (by omega) (ksk_k (by omega)), s.i 5 p _ (by omega) (ksk_k (by omega)), s.i 19 p _ (by omega) (ksk_k (by omega))]
  exact (((s.si _ _ _).si _ _ _).si _ _ _).si _ _ _
theorem SMx.ref (s : SMx v g) {t p a b c u : Nat} (k : TkF (hI v) t p a b c u) : SMx (refv v t) (eM g t p 2 2 (skI (hI v) t)) := by
  rw [refv_eq k]
  unfold eM
  have e : hI (eC v t p (lin (kf p) a b c) 2 (nI u) 2 (skI (hI v) t)) (46 + 2, 0) p = hI g (46 + 2, 0) p := by
    unfold eC
    rw [hI_sI, if_neg (by simp), hI_sI, if_neg (by simp), hI_sI, if_neg (by simp), hI_sI, if_neg (by simp), s.1 _ _ (Or.inl (by simp)) (ksc_k (by omega))]
  rw [e]
  refine SMx.si (SMx.si ?_ _ _ _) _ _ _
  unfold eC
  exact (((s.oc ⟨by simp, by simp⟩ _ _).oc ⟨by simp, by simp⟩ _ _).oc ⟨by simp, by simp⟩ _ _).oc ⟨by simp, by simp⟩ _ _
/-- the class refunds all -/
theorem w_refAll (i : InvQ qq L xs nr nt v) (s : SCx v h) {p : Nat} (hp : p < 49) (uns : hI v (43, 0) p = 0) {Q : xH → Prop} (q : ∀ h', SCx (rfs p v nt) h' → (∀ j, hI h' (8, 0) j = hI h (8, 0) j) → Sm KC h h' → Q h') : p_T_refundAll (11, 0) (5, p) h Q := by
  have hnt := i.vc.2.1
  unfold p_T_refundAll
  have key : ∀ (m t : Nat) (h' : xH), t + m = nt → SCx (rfs p v t) h' → (∀ j, hI h' (8, 0) j = hI h (8, 0) j) → Sm KC h h' → p_T_refundAll_L2 (11, 0) (5, p) (fun h => Q h) Q (m + 1) (nI t) h' := by
    intro m
    induction m with
    | zero =>
      intro t h' ht S z8 zc
      have : t = nt := by omega
      subst this
      obtain ⟨ii, kk⟩ := rfs_inv i hp uns t (by omega)
      unfold p_T_refundAll_L2
      rw [S.i 11 0 11 (by omega) (ksk_k (by omega)), ii.vc.2.2.2.2.1, le_nn (by omega) (by omega)]
      exact ⟨rfl, fun _ => q h' S z8 zc, fun z => absurd (by omega) z⟩
    | succ m ih =>
      intro t h' ht S z8 zc
      obtain ⟨ii, kk⟩ := rfs_inv i hp uns t (by omega)
      obtain ⟨w, iw, sw, kw⟩ := SCx.up ii S
      obtain ⟨p', A, B, C, u, k⟩ := tkf ii (t := t) (by omega)
      have hp' := k.p49
      have k2 := k.sc kw
      have r := tkr iw (t := t) (by omega) k2
      have x := SC.x iw sw
      have cl := k2.cls
      have st : rfs p v (t + 1) = rf1 p (rfs p v t) t := rfl
      have e6 : hI h' (10, t) 6 = hI (rfs p v t) (63, 0) t := by rw [S.i 10 t 6 (by omega) (ksk_k (by omega))]; exact k.cls.2.2.2.2.2
      unfold p_T_refundAll_L2
      rw [S.i 11 0 11 (by omega) (ksk_k (by omega)), ii.vc.2.2.2.2.1, le_nn (by omega) (by omega), xR_11_0_2 x, xS_29_0 x, cl_n (by omega), sw.2.2, r.1, r.2, e6]
      refine ⟨rfl, fun z => absurd z (by omega), fun _ => ⟨rfl, in_n (by omega) (by omega), rfl, by simp, by simp, fun z y hy => ?_, fun z => ⟨in_n (by omega) (by omega), fun z2 y hy => ?_, fun z2 => ⟨in_n (by omega) (by omega), w_refund iw sw (by omega) k2 ?_⟩⟩⟩⟩
      · rw [hy, nI_1]
        refine ih (t + 1) h' (by omega) ?_ z8 zc
        rw [st]; unfold rf1
        rw [if_neg (fun w => z (by
          have := (nI_inj (by omega) (by omega)).mp (k.pool.symm.trans w.1)
          rw [this]))]
        exact S
      · rw [hy, nI_1]
        refine ih (t + 1) h' (by omega) ?_ z8 zc
        rw [st]; unfold rf1
        rw [if_neg (fun w => z2 w.2)]
        exact S
      · intro y hy
        rw [hy, nI_1]
        refine ih (t + 1) _ (by omega) ?_ (fun j => ?_) (zc.tr (eC_kc _ _ _ _ _ _ _ _))
        · have e : p' = p := congrArg Prod.snd z
          rw [st]; unfold rf1
          rw [if_pos ⟨k.pool.trans (by rw [e]), z2⟩, skI_sc kw]
          exact S.ref k
        · unfold eC
          rw [hI_sI, if_neg (by simp), hI_sI, if_neg (by simp), hI_sI, if_neg (by simp), hI_sI, if_neg (by simp)]
          exact z8 j
  exact ⟨nt + 1, key nt 0 h (by omega) s (fun _ => rfl) (Sm.rf _ h)⟩
/-- the model refunds all -/
theorem w_mrefAll (i : InvQ qq L xs nr nt v) (s : SMx v g) {p : Nat} {l2 : Int32} (hp : p < 49) (uns : hI v (43, 0) p = 0) {K : xH → Prop} {Q : xH → Prop} (q : ∀ g', SMx (rfs p v nt) g' → K g') : ∃ f, p_M_settle_L62 (12, 0) (nI p) l2 K Q f 0 g := by
  have hnt := i.vc.2.1
  have key : ∀ (m t : Nat) (g' : xH), t + m = nt → SMx (rfs p v t) g' → p_M_settle_L62 (12, 0) (nI p) l2 K Q (m + 1) (nI t) g' := by
    intro m
    induction m with
    | zero =>
      intro t g' ht S
      have : t = nt := by omega
      subst this
      obtain ⟨ii, kk⟩ := rfs_inv i hp uns t (by omega)
      obtain ⟨w, iw, sw, kw⟩ := SMx.up ii S
      unfold p_M_settle_L62
      rw [sw.i 12, iw.vc.2.2.2.2.2, le_nn (by omega) (by omega)]
      exact ⟨rfl, fun _ => q g' S, fun z => absurd (by omega) z⟩
    | succ m ih =>
      intro t g' ht S
      obtain ⟨ii, kk⟩ := rfs_inv i hp uns t (by omega)
      obtain ⟨w, iw, sw, kw⟩ := SMx.up ii S
      obtain ⟨p', A, B, C, u, k⟩ := tkf ii (t := t) (by omega)
      have hp' := k.p49
      have k2 := k.sc kw
      have m' := SM.m iw sw
      have st : rfs p v (t + 1) = rf1 p (rfs p v t) t := rfl
      have e63 : hI g' (63, 0) t = hI (rfs p v t) (63, 0) t := S.1 _ _ (Or.inl (by simp)) (ksc_k (by omega))
      unfold p_M_settle_L62
      rw [sw.i 12, iw.vc.2.2.2.2.2, le_nn (by omega) (by omega), mR24 m', mS24 m', mR29 m', mS29 m', cl_n (by omega), sw.i 58, k2.pool, e63]
      refine ⟨rfl, fun z => absurd z (by omega), fun _ => ⟨rfl, in_n (by omega) (by omega), fun z y hy => ?_, fun z => ⟨rfl, in_n (by omega) (by omega), fun z2 y hy => ?_, fun z2 => w_mrefund iw sw (by omega) k2 ?_⟩⟩⟩
      · rw [hy, nI_1]
        refine ih (t + 1) g' (by omega) ?_
        rw [st]; unfold rf1
        rw [if_neg (fun w => z (k.pool.symm.trans w.1))]
        exact S
      · rw [hy, nI_1]
        refine ih (t + 1) g' (by omega) ?_
        rw [st]; unfold rf1
        rw [if_neg (fun w => z2 w.2)]
        exact S
      · intro y hy
        rw [hy, nI_1]
        refine ih (t + 1) _ (by omega) ?_
        have e : p' = p := (nI_inj (by omega) (by omega)).mp z
        rw [st]; unfold rf1
        rw [if_pos ⟨by rw [k.pool]; exact z, z2⟩, skI_sc kw]
        exact S.ref k
  exact ⟨nt + 1, key nt 0 g (by omega) s⟩
end Mix
