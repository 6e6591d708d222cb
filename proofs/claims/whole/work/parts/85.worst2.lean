section Worst2
variable {L : Nat} {xs : Nat → Int32} {nr nt : Nat} {v h g : xH}
noncomputable def ddR (h : xH) (nt r a b c : Nat) : Int32 := psm (dueK h nt r (sat a b c)) 4
theorem nle_lt {a b : Int32} : ¬ a ≤ b ↔ b < a := by rw [ti_le, ti_lt]; omega
theorem ltn {a b : Nat} (ha : a < 1000) (hb : b < 1000) : nI a < nI b ↔ a < b := by rw [ti_lt, ti_n (by omega), ti_n (by omega)]; omega
theorem w_W86 (i : Inv L xs nr nt h) {r n a b mc : Nat} (hr : r < nr) (st : ¬ hI h (35, 0) r = 2) (en : (hI h (36, 0) r).toNatClampNeg = n) (a1 : 1 ≤ a) (ha : a ≤ n) (b1 : 1 ≤ b) (hb : b ≤ n) (hm : mc ≤ n) {K : Int32 → xH → Prop} {Q : Int32 → xH → Prop} : ∀ (m c : Nat) (h' : xH) (s : Int32 × Int32), c + m = mc + 1 → Sm KW h h' → hI h' (11, 0) 13 = s.2 → (∀ h2 t, t = xwC (okb (hI h) r) (ddR h nt r) a b m c s → Sm KW h h2 → hI h2 (11, 0) 13 = t.2 → K t.1 h2) → p_T_worst_L86 (11, 0) (nI r) (6, r) (nI mc) (nI a) (nI b) K Q (m + 1) s.1 (nI c) h' := by
  have r12 := rn12 i hr
  rw [en] at r12
  intro m
  induction m with
  | zero =>
    intro c h' s hc S e13 q
    unfold p_T_worst_L86
    rw [ltn (by omega) (by omega)]
    exact ⟨fun _ => q h' s rfl S e13, fun z => absurd (by omega) z⟩
  | succ m ih =>
    intro c h' s hc S e13 q
    unfold p_T_worst_L86
    rw [ltn (by omega) (by omega)]
    refine ⟨fun z => absurd z (by omega), fun _ => ⟨rfl, w_areRowC i S hr (by omega) (by omega) (by omega) (fun no => ⟨fun _ y hy => ?_, fun z => absurd rfl z⟩) (fun yes => ⟨fun z => absurd z (by decide), fun _ => ⟨rfl, ?_⟩⟩)⟩⟩
    · rw [hy, nI_1]
      have e : ws (okb (hI h) r) (ddR h nt r) a b c s = s := if_neg (fun z => no (okb_t.mp z))
      refine ih (c + 1) h' s (by omega) S e13 (fun h2 t et => q h2 t ?_)
      show t = xwC _ _ a b m (c + 1) (ws _ _ a b c s)
      rw [e]; exact et
    · obtain ⟨ab, ac, bc, ga, gb, gc⟩ := id yes
      refine w_dueIf i S hr st a1 (by omega) b1 (by omega) (by omega) ab ac bc (fun h23 S23 => ?_)
      have S' : Sm KW h h23 := S.tr (S23.mono (fun n j z => Or.inl z))
      have e13' : hI h23 (11, 0) 13 = s.2 := by rw [S23.1 _ _ (by simp [KSk])]; exact e13
      have set : (s.1 = -1 ∨ s.2 < ddR h nt r a b c) → p_T_worst_j134 (11, 0) (nI r) (6, r) (nI mc) (nI a) (nI b) (nI c) (ddR h nt r a b c) (p_T_worst_L86 (11, 0) (nI r) (6, r) (nI mc) (nI a) (nI b) K Q (m + 1)) h23 Q := fun z => by
        unfold p_T_worst_j134
        refine ⟨rfl, fun h27 q27 w hw y hy => ?_⟩
        rw [hw, hy, nI_1]
        have e : ws (okb (hI h) r) (ddR h nt r) a b c s = (cod a b c, ddR h nt r a b c) := by
          unfold ws; rw [if_pos (okb_t.mpr yes), if_pos z]
        refine ih (c + 1) h27 (cod a b c, ddR h nt r a b c) (by omega) (by rw [q27]; exact S'.si _ (Or.inr ⟨rfl, rfl⟩)) (by rw [q27, hI_sI, if_pos ⟨rfl, rfl⟩]) (fun h2 t et => q h2 t ?_)
        show t = xwC _ _ a b m (c + 1) (ws _ _ a b c s)
        rw [e]; exact et
      show _ ∧ _
      rw [e13', nle_lt]
      refine ⟨fun z => set (Or.inl z), fun nz => ⟨fun z y hy => ?_, fun z => set (Or.inr z)⟩⟩
      rw [hy, nI_1]
      have e : ws (okb (hI h) r) (ddR h nt r) a b c s = s := by
        unfold ws; rw [if_pos (okb_t.mpr yes), if_neg (fun w => w.elim nz (fun w => nle_lt.mpr w z))]
      refine ih (c + 1) h23 s (by omega) S' e13' (fun h2 t et => q h2 t ?_)
      show t = xwC _ _ a b m (c + 1) (ws _ _ a b c s)
      rw [e]; exact et
theorem w_W70 (i : Inv L xs nr nt h) {r n a mc c0 cm : Nat} (hr : r < nr) (st : ¬ hI h (35, 0) r = 2) (en : (hI h (36, 0) r).toNatClampNeg = n) (e0 : hI h (6, r) 0 = nI n) (a1 : 1 ≤ a) (ha : a ≤ n) (hm : mc ≤ n) (hc : (mc = 0 ∧ c0 = 0 ∧ cm = 1) ∨ (mc ≠ 0 ∧ c0 = 1 ∧ cm = mc)) {K : Int32 → xH → Prop} {Q : Int32 → xH → Prop} : ∀ (m b : Nat) (h' : xH) (s : Int32 × Int32), 1 ≤ b → b + m = n + 1 → Sm KW h h' → hI h' (11, 0) 13 = s.2 → (∀ h2 t, t = xwB (okb (hI h) r) (ddR h nt r) c0 cm a m b s → Sm KW h h2 → hI h2 (11, 0) 13 = t.2 → K t.1 h2) → p_T_worst_L70 (11, 0) (nI r) (6, r) (nI mc) (nI a) K Q (m + 1) s.1 (nI b) h' := by
  have r12 := rn12 i hr
  rw [en] at r12
  intro m
  induction m with
  | zero =>
    intro b h' s b1 hb S e13 q
    have e0' : hI h' (6, r) 0 = nI n := by rw [S.1 _ _ (by simp [KW, KSk])]; exact e0
    unfold p_T_worst_L70
    rw [e0', ltn (by omega) (by omega)]
    exact ⟨rfl, fun _ => q h' s rfl S e13, fun z => absurd (by omega) z⟩
  | succ m ih =>
    intro b h' s b1 hb S e13 q
    have e0' : hI h' (6, r) 0 = nI n := by rw [S.1 _ _ (by simp [KW, KSk])]; exact e0
    unfold p_T_worst_L70 p_Jm_min
    rw [e0', ltn (by omega) (by omega)]
    have go : ∃ f, p_T_worst_L86 (11, 0) (nI r) (6, r) (nI mc) (nI a) (nI b) (fun (x36 : Int32) (h37 : xH) => ∀ v38 : Int32, v38 = nI b + (1 : Int32) → (p_T_worst_L70 (11, 0) (nI r) (6, r) (nI mc) (nI a) K Q (m + 1)) x36 v38 h37) Q f s.1 (nI c0) h' := by
      refine ⟨cm + 1, w_W86 i hr st en a1 ha b1 (by omega) hm cm c0 h' s (by omega) S e13 (fun h2 t et S2 f2 => ?_)⟩
      intro w hw
      rw [hw, nI_1]
      exact ih (b + 1) h2 t (by omega) (by omega) S2 f2 (fun h3 u eu => q h3 u (by rw [eu, et]; rfl))
    have lm : nI mc < (1 : Int32) ↔ mc < 1 := ltn (b := 1) (by omega) (by omega)
    rw [lm]
    refine ⟨rfl, fun z => absurd z (by omega), fun _ => ⟨fun z => ?_, fun z => ?_⟩⟩
    · rcases hc with ⟨h1, h2, h3⟩ | ⟨h1, h2, h3⟩
      · subst h2; rw [h1] at go ⊢; exact go
      · omega
    · rcases hc with ⟨h1, h2, h3⟩ | ⟨h1, h2, h3⟩
      · omega
      · subst h2; exact go
theorem w_W58 (i : Inv L xs nr nt h) {r n mc c0 cm : Nat} (hr : r < nr) (st : ¬ hI h (35, 0) r = 2) (en : (hI h (36, 0) r).toNatClampNeg = n) (e0 : hI h (6, r) 0 = nI n) (hm : mc ≤ n) (hc : (mc = 0 ∧ c0 = 0 ∧ cm = 1) ∨ (mc ≠ 0 ∧ c0 = 1 ∧ cm = mc)) {K : Int32 → xH → Prop} {Q : Int32 → xH → Prop} : ∀ (m a : Nat) (h' : xH) (s : Int32 × Int32), 1 ≤ a → a + m = n + 1 → Sm KW h h' → hI h' (11, 0) 13 = s.2 → (∀ h2 t, t = xwA (okb (hI h) r) (ddR h nt r) n c0 cm m a s → Sm KW h h2 → hI h2 (11, 0) 13 = t.2 → K t.1 h2) → p_T_worst_L58 (11, 0) (nI r) (6, r) (nI mc) K Q (m + 1) s.1 (nI a) h' := by
  have r12 := rn12 i hr
  rw [en] at r12
  intro m
  induction m with
  | zero =>
    intro a h' s a1 ha S e13 q
    have e0' : hI h' (6, r) 0 = nI n := by rw [S.1 _ _ (by simp [KW, KSk])]; exact e0
    unfold p_T_worst_L58
    rw [e0', ltn (by omega) (by omega)]
    exact ⟨rfl, fun _ => q h' s rfl S e13, fun z => absurd (by omega) z⟩
  | succ m ih =>
    intro a h' s a1 ha S e13 q
    have e0' : hI h' (6, r) 0 = nI n := by rw [S.1 _ _ (by simp [KW, KSk])]; exact e0
    unfold p_T_worst_L58
    rw [e0', ltn (by omega) (by omega)]
    refine ⟨rfl, fun z => absurd z (by omega), fun _ => ⟨n + 1, w_W70 i hr st en e0 a1 (by omega) hm hc n 1 h' s (by omega) (by omega) S e13 (fun h2 t et S2 f2 => ?_)⟩⟩
    intro w hw
    rw [hw, nI_1]
    exact ih (a + 1) h2 t (by omega) (by omega) S2 f2 (fun h3 u eu => q h3 u (by rw [eu, et]; rfl))
/-- what the model changes while it looks for the worst -/
def KV : xN → Nat → Prop := fun n j => KF n j ∨ n = (67, 0) ∨ (n = (12, 0) ∧ j = 47)
theorem kv_2 : ∀ n j, KV n j → KS2 n j := fun n j z => by
  rcases z with z | z | z
  · exact Or.inl (kx_F n j z)
  · exact Or.inl (kx_67 n j z)
  · exact Or.inr (Or.inr z)
theorem GrN.fr {g' : xH} {I : xN → Nat → Int32} {r k : Nat} {Fk : Nat → Nat} (s : Sm KV g g') (G : GrN g I nt r k Fk) : GrN g' I nt r k Fk := by
  obtain ⟨c1, c2, c3, c4, c5⟩ := G
  refine ⟨fun j hj => by rw [s.1 _ _ (by simp [KV, KF])]; exact c1 j hj, c2, c3, c4, fun j hj th => ?_⟩
  obtain ⟨gl, z⟩ := c5 j hj th
  exact ⟨gl, z.fr (fun k x h1 h2 _ => s.1 _ _ (fun z => by
    rcases z with (z | z) | z | z
    · have := congrArg Prod.fst z.1; simp at this; omega
    · have := congrArg Prod.fst z; simp at this; omega
    · have := congrArg Prod.fst z; simp at this; omega
    · have := congrArg Prod.fst z.1; simp at this; omega))⟩
theorem w_M143 (i : Inv L xs nr nt h) {g0 : xH} (s0 : Sm KS2 h g0) {r n a b mc rn : Nat} {Fk : Nat → Nat} (gr : GrN g0 (hI h) nt r 4 Fk) (e4 : hI g0 (82, 0) 4 = nI (Fk 4)) (hr : r < nr) (st : ¬ hI h (35, 0) r = 2) (hn : n ≤ 12) (a1 : 1 ≤ a) (ha : a ≤ n) (b1 : 1 ≤ b) (hb : b ≤ n) (hm : mc ≤ n) (hrn : rn ≤ 12) (hmc : mc = if rn = 2 then 0 else n) {K : Int32 → xH → Prop} {Q : Int32 → xH → Prop} : ∀ (m c : Nat) (g' : xH) (s : Int32 × Int32), c + m = mc + 1 → Sm KV g0 g' → hI g' (12, 0) 47 = s.2 → (∀ h2 t, t = xwC (okb (hI h) r) (ddR h nt r) a b m c s → Sm KV g0 h2 → hI h2 (12, 0) 47 = t.2 → K t.1 h2) → p_M_worst_L143 (12, 0) (nI r) (nI rn) (nI n) (nI a) (nI b) K Q (m + 1) s.1 (nI c) g' := by
  have hnr := i.vc.1
  have e2 : nI rn = (2 : Int32) ↔ rn = 2 := nI_inj (b := 2) (by omega) (by omega)
  have un : ∀ m c s g', p_M_worst_j155 (nI mc) (nI c) (12, 0) (nI r) (nI rn) (nI n) s (nI a) (nI b) (nI c) (p_M_worst_L143 (12, 0) (nI r) (nI rn) (nI n) (nI a) (nI b) K Q m) K g' Q → p_M_worst_L143 (12, 0) (nI r) (nI rn) (nI n) (nI a) (nI b) K Q (m + 1) s (nI c) g' := fun m c s g' z => by
    unfold p_M_worst_L143
    rw [e2]
    refine ⟨fun y => ?_, fun y => ?_⟩
    · rw [if_neg y] at hmc; rw [hmc] at z; exact z
    · rw [if_pos y] at hmc; rw [hmc] at z; exact z
  intro m
  induction m with
  | zero =>
    intro c g' s hc S e47 q
    refine un _ _ _ _ ?_
    unfold p_M_worst_j155
    rw [ltn (by omega) (by omega)]
    exact ⟨fun _ => q g' s rfl S e47, fun z => absurd (by omega) z⟩
  | succ m ih =>
    intro c g' s hc S e47 q
    refine un _ _ _ _ ?_
    have SK : Sm KS2 h g' := s0.tr (S.mono kv_2)
    have m' : ShM (hS g') (hR g') := by rw [SK.2.1, SK.2.2]; exact i.m
    obtain ⟨v, iv, sv, kv⟩ := vmk i SK
    have s2 := SM.to2 iv sv
    have j0 : ¬ okp (hI h) r a b c → p_M_worst_j214 0 (12, 0) (nI r) (nI rn) (nI n) s.1 (nI a) (nI b) (nI c) (p_M_worst_L143 (12, 0) (nI r) (nI rn) (nI n) (nI a) (nI b) K Q (m + 1)) g' Q := fun no => by
      unfold p_M_worst_j214
      refine ⟨fun _ y hy => ?_, fun z => absurd rfl z⟩
      rw [hy, nI_1]
      have e : ws (okb (hI h) r) (ddR h nt r) a b c s = s := if_neg (fun z => no (okb_t.mp z))
      refine ih (c + 1) g' s (by omega) S e47 (fun h2 t et => q h2 t ?_)
      show t = xwC _ _ a b m (c + 1) (ws _ _ a b c s)
      rw [e]; exact et
    have j1 : okp (hI h) r a b c → p_M_worst_j214 1 (12, 0) (nI r) (nI rn) (nI n) s.1 (nI a) (nI b) (nI c) (p_M_worst_L143 (12, 0) (nI r) (nI rn) (nI n) (nI a) (nI b) K Q (m + 1)) g' Q := fun yes => by
      unfold p_M_worst_j214
      refine ⟨fun z => absurd z (by decide), fun _ => ⟨rfl, w_suppM m' (by omega) (by omega) (by omega) (fun g48 S48 A48 => ?_)⟩⟩
      have S48' : Sm KV g0 g48 := S.tr (S48.mono (fun n j z => Or.inr (Or.inl z)))
      refine w_dueNow i (s0.tr (S48'.mono kv_2)) hr st (gr.fr S48') (by rw [S48'.1 _ _ (by simp [KV, KF])]; exact e4) A48 (fun g49 S49 => ?_)
      have S' : Sm KV g0 g49 := S48'.tr (S49.mono (fun n j z => Or.inl z))
      have e47' : hI g49 (12, 0) 47 = s.2 := by rw [S49.1 _ _ (by simp [KF]), S48.1 _ _ (by simp)]; exact e47
      have set : (s.1 = -1 ∨ s.2 < ddR h nt r a b c) → p_M_worst_j253 (12, 0) (nI r) (nI rn) (nI n) (nI a) (nI b) (nI c) (ddR h nt r a b c) (p_M_worst_L143 (12, 0) (nI r) (nI rn) (nI n) (nI a) (nI b) K Q (m + 1)) g49 Q := fun z => by
        unfold p_M_worst_j253
        intro w hw
        refine ⟨rfl, fun h55 q55 y hy => ?_⟩
        rw [hw, hy, nI_1]
        have e : ws (okb (hI h) r) (ddR h nt r) a b c s = (cod a b c, ddR h nt r a b c) := by
          unfold ws; rw [if_pos (okb_t.mpr yes), if_pos z]
        refine ih (c + 1) h55 (cod a b c, ddR h nt r a b c) (by omega) (by rw [q55]; exact S'.si _ (Or.inr (Or.inr ⟨rfl, rfl⟩))) (by rw [q55, hI_sI, if_pos ⟨rfl, rfl⟩]) (fun h2 t et => q h2 t ?_)
        show t = xwC _ _ a b m (c + 1) (ws _ _ a b c s)
        rw [e]; exact et
      show _ ∧ _
      rw [e47', nle_lt]
      refine ⟨fun z => set (Or.inl z), fun nz => ⟨fun z y hy => ?_, fun z => set (Or.inr z)⟩⟩
      rw [hy, nI_1]
      have e : ws (okb (hI h) r) (ddR h nt r) a b c s = s := by
        unfold ws; rw [if_pos (okb_t.mpr yes), if_neg (fun w => w.elim nz (fun w => nle_lt.mpr w z))]
      refine ih (c + 1) g49 s (by omega) S' e47' (fun h2 t et => q h2 t ?_)
      show t = xwC _ _ a b m (c + 1) (ws _ _ a b c s)
      rw [e]; exact et
    have eq : ∀ x y : Nat, x ≤ 12 → y ≤ 12 → (nI x = nI y ↔ x = y) := fun x y h1 h2 => nI_inj (by omega) (by omega)
    unfold p_M_worst_j155
    rw [ltn (by omega) (by omega), eq a b (by omega) (by omega), eq a c (by omega) (by omega), eq b c (by omega) (by omega)]
    exact ⟨fun z => absurd z (by omega), fun _ => ⟨fun z => j0 (fun y => y.1 z), fun z1 => ⟨fun z => j0 (fun y => y.2.1 z), fun z2 => ⟨fun z => j0 (fun y => y.2.2.1 z), fun z3 => ⟨rfl, w_isGoneN s2 (by omega) (by omega) (fun ga => ⟨fun z => absurd rfl z, fun _ => w_isGoneN s2 (by omega) (by omega) (fun gb => ⟨fun z => absurd rfl z, fun _ => w_isGoneN s2 (by omega) (by omega) (fun gc => ⟨fun z => absurd rfl z, fun _ => j1 ⟨z1, z2, z3, fun y => ga ((gnn_eq kv).mpr y), fun y => gb ((gnn_eq kv).mpr y), fun y => gc ((gnn_eq kv).mpr y)⟩⟩) (fun gc => ⟨fun _ => j0 (fun y => y.2.2.2.2.2 ((gnn_eq kv).mp gc)), fun z => absurd z (by decide)⟩)⟩) (fun gb => ⟨fun _ => j0 (fun y => y.2.2.2.2.1 ((gnn_eq kv).mp gb)), fun z => absurd z (by decide)⟩)⟩) (fun ga => ⟨fun _ => j0 (fun y => y.2.2.2.1 ((gnn_eq kv).mp ga)), fun z => absurd z (by decide)⟩)⟩⟩⟩⟩⟩
end Worst2
