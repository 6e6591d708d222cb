section Slips3
variable {L : Nat} {xs : Nat → Int32} {nr nt : Nat} {h : xH}
theorem SlOK_fr {I I' : xN → Nat → Int32} {s : Nat} (e9 : ∀ j, I' (9, s) j = I (9, s) j) (e26 : ∀ k, I' (26, s) k = I (26, s) k) (e87 : I' (87, 0) s = I (87, 0) s) (e88 : I' (88, 0) s = I (88, 0) s) (e89 : I' (89, 0) s = I (89, 0) s) (e90 : ∀ k, k < 4 → I' (90, 0) (4 * s + k) = I (90, 0) (4 * s + k)) (e91 : ∀ k, k < 8 → I' (91, 0) (8 * s + k) = I (91, 0) (8 * s + k)) (sl : SlOK I nt s) : SlOK I' nt s := by
  unfold SlOK
  rw [e9, e9, e9, e87, e88, e89]
  refine ⟨sl.1, ?_⟩
  rcases sl.2 with c | c | ⟨c, z, z1, z2, z3, z4⟩ | ⟨c, z, z1, z2, z3, z4⟩
  · exact Or.inl c
  · exact Or.inr (Or.inl c)
  · exact Or.inr (Or.inr (Or.inl ⟨c, z, z1, z2, z3, fun k hk => by rw [e26, e90 k (by omega)]; exact z4 k hk⟩))
  · exact Or.inr (Or.inr (Or.inr ⟨c, z, z1, z2, z3, fun k hk => by rw [e26, e91 k (by omega)]; exact z4 k hk⟩))
theorem VW_sl {I I' : xN → Nat → Int32} (e85 : ∀ w, w < 6 → I' (85, 0) w = I (85, 0) w) (e86 : ∀ w, w < 6 → I' (86, 0) w = I (86, 0) w) (e3 : ∀ w, w < 6 → I' (3, w) 1 = I (3, w) 1) (hs : ∀ s, s < 72 → SlOK I nt s → SlOK I' nt s) (v : VW I nt) : VW I' nt := by
  intro w hw
  rw [e85 w hw, e86 w hw, e3 w hw]
  rcases v w hw with c | ⟨c, n, n1, n2, n3, n4⟩
  · exact Or.inl c
  · exact Or.inr ⟨c, n, n1, n2, n3, fun i hi => hs (12 * w + i) (by omega) (n4 i hi)⟩
/-- promise 25 -/
theorem o_lose (H : Ok L xs h) (x : Int32) {F : Int32 → xH → Prop} (hF : Nx L xs (p_M_lose (12, 0) x) F) : p_T_lose (11, 0) x h F := by
  obtain ⟨nr, nt, i⟩ := H
  unfold p_T_lose
  refine w_isWindow (fun c => ⟨fun z => absurd rfl z, fun _ => hF _ _ i.vs (fun G hG => ?_)⟩) (fun w hw e => ⟨fun _ => ?_, fun z => absurd z (by decide)⟩)
  · unfold p_M_lose
    exact w_mWindow (fun _ => ⟨fun z => absurd rfl z, fun _ => hG h ⟨nr, nt, i⟩⟩) (fun w hw e => absurd e (c w hw))
  · subst e
    obtain ⟨r1, r2, r3, r4, r5, r6, r7, r8⟩ := slipR (j := 0) i hw (by omega)
    rw [r1, r2, cl_n (by omega), r3]
    refine ⟨rfl, rfl, in_n (by omega) (by omega), rfl, fun v hv => ?_⟩
    rcases i.vw w hw with ⟨v1, v2⟩ | ⟨v1, n, n1, n2, n3, n4⟩
    · rw [v2] at hv
      subst hv
      refine ⟨fun z => absurd rfl z, fun _ => w_found i.x (k := 1) (by omega) (fin_find (k := 1) i (by omega) (by omega) hF (fun G g => ?_))⟩
      unfold p_M_lose
      refine w_mWindow (fun c => absurd rfl (c w hw)) (fun w' _ _ => ⟨fun _ => ?_, fun z => absurd z (by decide)⟩)
      rw [mR51 (S := hS (fd h 1)) (R := hR (fd h 1)) i.m, mS51 (S := hS (fd h 1)) (R := hR (fd h 1)) i.m, cl_n (by omega), KC_m (fd_sm h 1) _ _ (by omega)]
      exact ⟨rfl, rfl, in_n (by omega) (by omega), fun z => absurd v1 z, fun _ => g⟩
    · rw [n2] at hv
      subst hv
      refine ⟨fun _ => ⟨in_n (by omega) (by omega), fun h1 e1 => ?_⟩, fun z => ?_⟩
      · have sC : Sm KC h h1 := by rw [e1]; exact (Sm.rf _ h).si _ (by simp [KC])
        have s1 : Sm (KL [((3, w), 1), ((85, 0), w)]) h h1 := by rw [e1]; exact (Sm.rf _ h).si _ (by simp [KL])
        have m : ShM (hS h1) (hR h1) := by rw [s1.2.1, s1.2.2]; exact i.m
        refine hF _ _ (i.vs.fr sC (fun n j k => k.2.2)) (fun G hG => ?_)
        unfold p_M_lose
        refine w_mWindow (fun c => absurd rfl (c w hw)) (fun w' _ _ => ⟨fun _ => ?_, fun z => absurd z (by decide)⟩)
        rw [mR51 m, mS51 m, cl_n (by omega), KC_m sC _ _ (by omega), v1]
        refine ⟨rfl, rfl, in_n (by omega) (by omega), fun _ => ⟨in_n (by omega) (by omega), fun h2 e2 => ?_⟩, fun z => absurd z (by decide)⟩
        have s2 : Sm (KL [((3, w), 1), ((85, 0), w)]) h h2 := by rw [e2]; exact s1.si _ (by simp [KL])
        have m2 : ShM (hS h2) (hR h2) := by rw [s2.2.1, s2.2.2]; exact i.m
        rw [mR52 m2, mS52 m2, s2.1 _ _ (by simp [KL]), n3]
        refine ⟨rfl, in_n (by omega) (by omega), hG h2 ⟨nr, nt, i.updL s2 (vw := Or.inr fun w' hw' => ?_)⟩⟩
        by_cases ew : w' = w
        · subst ew
          left
          rw [e2, e1]
          simp [hI_sI]
        · have v := i.vw w' hw'
          rw [e2, e1]
          simp only [hI_sI, Prod.mk.injEq]
          simpa [ew] using v
      · exfalso
        have := congrArg Int32.toInt z
        rw [ti_n (by omega)] at this
        have e9 : (-1 : Int32).toInt = -1 := rfl
        omega
/-- promise 33 -/
theorem o_coin (H : Ok L xs h) (x y k a : Int32) {F : Int32 → xH → Prop} (hF : Nx L xs (p_M_coin (12, 0) x y k a) F) : p_T_coin (11, 0) x y k a h F := by
  obtain ⟨nr, nt, i⟩ := H
  unfold p_T_coin
  refine ⟨rfl, w_refuseCell i (Or.inr rfl) (fun c => ⟨fun z => absurd z (by decide), fun _ => hF _ _ i.vs (fun G hG => ?_)⟩) (fun w hw e => ?_)⟩
  · unfold p_M_coin
    exact w_mWindow (fun _ => ⟨fun z => absurd rfl z, fun _ => hG h ⟨nr, nt, i⟩⟩) (fun w hw e => absurd e (c w hw))
  · subst e
    by_cases k0 : lkC (hI h) w y 3 k = 0
    · rw [k0]
      have k0' := k0
      obtain ⟨j, q, z, hj, hq, hz, rfl, rfl, kw, sl, z2, z3⟩ := cell_0 i hw (Or.inr rfl) k0
      obtain ⟨r1, r2, r3, r4, r5, r6, r7, r8⟩ := slipR (j := j) i hw (by omega)
      refine ⟨fun _ => ?_, fun z => absurd rfl z⟩
      show _ ∧ _
      rw [show hp h 0 = h from rfl, r1, r2, cl_n (by omega), cl_n (by omega), cl_n (by omega), r3, r4, r5, r6, r7, r8]
      refine ⟨rfl, in_n (by omega) (by omega), rfl, rfl, in_n (by omega) (by omega), rfl, rfl, in_n (by omega) (by omega), fun h1 e1 => ?_⟩
      have sC : Sm KC h h1 := by rw [e1]; exact (Sm.rf _ h).si _ (by simp [KC])
      have s1 : Sm (KL [((26, 12 * w + j), q), ((91, 0), 8 * (12 * w + j) + q)]) h h1 := by rw [e1]; exact (Sm.rf _ h).si _ (by simp [KL])
      have m : ShM (hS h1) (hR h1) := by rw [s1.2.1, s1.2.2]; exact i.m
      refine hF _ _ (i.vs.fr sC (fun n j k => k.2.2)) (fun G hG => ?_)
      unfold p_M_coin
      refine w_mWindow (fun c => absurd rfl (c w hw)) (fun w' _ _ => ⟨fun _ => ⟨rfl, w_lacksItem m hw (DW_eq (KC_m sC) (dw_of i hw)) (hz_of i sC hw (Or.inr rfl)) ?_⟩, fun z => absurd z (by decide)⟩)
      rw [lkC_eq (KC_m sC), k0, mR57 m, mS57 m, ix12, ix8, cl_n (by omega)]
      refine ⟨fun _ => ⟨rfl, in_n (by omega) (by omega), fun h2 e2 => ?_⟩, fun z => absurd (by decide) z⟩
      have s2 : Sm (KL [((26, 12 * w + j), q), ((91, 0), 8 * (12 * w + j) + q)]) h h2 := by rw [e2]; exact s1.si _ (by simp [KL])
      refine hG h2 ⟨nr, nt, i.updL s2 (vw := Or.inr (VW_sl (fun _ _ => s2.1 _ _ (by simp [KL])) (fun _ _ => s2.1 _ _ (by simp [KL])) (fun _ _ => s2.1 _ _ (by simp [KL])) (fun s hs sl => ?_) i.vw))⟩
      by_cases es : s = 12 * w + j
      · subst es
        refine ⟨by rw [s2.1 _ _ (by simp [KL]), s2.1 _ _ (by simp [KL])]; exact sl.1, Or.inr (Or.inr (Or.inr ⟨by rw [s2.1 _ _ (by simp [KL])]; exact kw, z, hz, by rw [s2.1 _ _ (by simp [KL])]; exact z2, by rw [s2.1 _ _ (by simp [KL])]; exact z3, fun k' hk' => ?_⟩))⟩
        have ce := coin_eq sl kw z3 hz hk'
        rw [e2, e1]
        simp only [hI_sI, Prod.mk.injEq]
        by_cases ek : k' = q
        · subst ek; simp
        · have : ¬ (8 * (12 * w + j) + k' = 8 * (12 * w + j) + q) := by omega
          simp [ek, this, ce]
      · exact SlOK_fr (fun _ => s2.1 _ _ (by simp [KL])) (fun _ => s2.1 _ _ (by simp [KL, es])) (s2.1 _ _ (by simp [KL])) (s2.1 _ _ (by simp [KL])) (s2.1 _ _ (by simp [KL])) (fun _ _ => s2.1 _ _ (by simp [KL])) (fun k' hk' => s2.1 _ _ (by simp [KL]; omega)) sl
    · refine ⟨fun z => absurd ((cd_0 (lkC_lt _ _ _ _ _)).mp z) k0, fun _ => fin_find i k0 (lkC_lt _ _ _ _ _) hF (fun G g => ?_)⟩
      unfold p_M_coin
      refine w_mWindow (fun c => absurd rfl (c w hw)) (fun w' _ _ => ⟨fun _ => ⟨rfl, w_lacksItem (h := fd h _) i.m hw (DW_eq (KC_m (fd_sm h _)) (dw_of i hw)) (hz_of i (fd_sm h _) hw (Or.inr rfl)) ?_⟩, fun z => absurd z (by decide)⟩)
      rw [lkC_eq (KC_m (fd_sm h _))]
      exact ⟨fun z => absurd ((nI_le0 (lkC_lt _ _ _ _ _)).mp z) k0, fun _ => g⟩
/-- a slip gets new contents: the others stay -/
theorem oth {I I' : xN → Nat → Int32} {s s0 : Nat} (hne : s ≠ s0) (e : ∀ n j, ¬ (n = (9, s0) ∨ n = (26, s0) ∨ (n = (87, 0) ∧ j = s0) ∨ (n = (88, 0) ∧ j = s0) ∨ (n = (89, 0) ∧ j = s0) ∨ (n = (90, 0) ∧ 4 * s0 ≤ j ∧ j < 4 * s0 + 4) ∨ (n = (91, 0) ∧ 8 * s0 ≤ j ∧ j < 8 * s0 + 8)) → I' n j = I n j) (sl : SlOK I nt s) : SlOK I' nt s :=
  SlOK_fr (fun _ => e _ _ (by simp [hne])) (fun _ => e _ _ (by simp [hne])) (e _ _ (by simp [hne])) (e _ _ (by simp [hne])) (e _ _ (by simp [hne])) (fun k hk => e _ _ (by simp; omega)) (fun k hk => e _ _ (by simp; omega)) sl
/-- promise 29 -/
theorem o_clear (H : Ok L xs h) (x y : Int32) {F : Int32 → xH → Prop} (hF : Nx L xs (p_M_clear (12, 0) x y) F) : p_T_clear (11, 0) x y h F := by
  obtain ⟨nr, nt, i⟩ := H
  unfold p_T_clear
  refine ⟨rfl, w_refuseSlip i (fun c => ⟨fun z => absurd z (by decide), fun _ => hF _ _ i.vs (fun G hG => ?_)⟩) (fun w hw e => ?_)⟩
  · unfold p_M_clear
    exact w_mWindow (fun _ => ⟨fun z => absurd rfl z, fun _ => hG h ⟨nr, nt, i⟩⟩) (fun w hw e => absurd e (c w hw))
  · subst e
    by_cases k0 : lkS (hI h) w y = 0
    · rw [k0]
      obtain ⟨n, j, n1, n2, ey, -, -, -, sl⟩ := lkS_0 i hw k0
      subst ey
      obtain ⟨r1, r2, r3, r4, r5, r6, r7, r8⟩ := slipR (j := j) i hw (by omega)
      refine ⟨fun _ => ?_, fun z => absurd rfl z⟩
      show _ ∧ _
      rw [show hp h 0 = h from rfl, r1, r2, cl_n (by omega), cl_n (by omega), r3, r4, r5, r6]
      refine ⟨rfl, in_n (by omega) (by omega), rfl, rfl, in_n (by omega) (by omega), w_kindOf i sl ?_⟩
      rw [r1, r2, r3, r4, r5, r6]
      refine ⟨rfl, in_n (by omega) (by omega), rfl, rfl, in_n (by omega) (by omega), rfl, rfl, fun h1 e1 => ?_⟩
      have sC : Sm KC h h1 := by rw [e1]; exact (Sm.rf _ h).si _ (by simp [KC])
      have s1 : Sm (KL [((9, 12 * w + j), 1), ((87, 0), 12 * w + j)]) h h1 := by rw [e1]; exact (Sm.rf _ h).si _ (by simp [KL])
      have m : ShM (hS h1) (hR h1) := by rw [s1.2.1, s1.2.2]; exact i.m
      refine hF _ _ (i.vs.fr sC (fun n j k => k.2.2)) (fun G hG => ?_)
      unfold p_M_clear
      refine w_mWindow (fun c => absurd rfl (c w hw)) (fun w' _ _ => ⟨fun _ => ⟨rfl, w_lacks m hw (DW_eq (KC_m sC) (dw_of i hw)) ?_⟩, fun z => absurd z (by decide)⟩)
      rw [lkS_eq (KC_m sC), k0, ix12]
      refine ⟨fun _ => w_kindAt i sC (by omega) sl ?_, fun z => absurd (by decide) z⟩
      rw [mR53 m, mS53 m, cl_n (by omega)]
      refine ⟨rfl, in_n (by omega) (by omega), fun h2 e2 => ?_⟩
      have s2 : Sm (KL [((9, 12 * w + j), 1), ((87, 0), 12 * w + j)]) h h2 := by rw [e2]; exact s1.si _ (by simp [KL])
      refine hG h2 ⟨nr, nt, i.updL s2 (vw := Or.inr (VW_sl (fun _ _ => s2.1 _ _ (by simp [KL])) (fun _ _ => s2.1 _ _ (by simp [KL])) (fun _ _ => s2.1 _ _ (by simp [KL])) (fun s hs sl => ?_) i.vw))⟩
      by_cases es : s = 12 * w + j
      · subst es
        refine ⟨?_, Or.inl ?_⟩ <;> rw [e2, e1] <;> simp [hI_sI]
      · exact oth es (fun n q hn => s2.1 n q (fun z => hn (by simp [KL] at z; rcases z with ⟨rfl, rfl⟩ | ⟨rfl, rfl⟩ <;> simp))) sl
    · refine ⟨fun z => absurd ((cd_0 (lkS_lt _ _ _)).mp z) k0, fun _ => fin_find i k0 (lkS_lt _ _ _) hF (fun G g => ?_)⟩
      unfold p_M_clear
      refine w_mWindow (fun c => absurd rfl (c w hw)) (fun w' _ _ => ⟨fun _ => ⟨rfl, w_lacks (h := fd h _) i.m hw (DW_eq (KC_m (fd_sm h _)) (dw_of i hw)) ?_⟩, fun z => absurd z (by decide)⟩)
      rw [lkS_eq (KC_m (fd_sm h _))]
      exact ⟨fun z => absurd ((nI_le0 (lkS_lt _ _ _)).mp z) k0, fun _ => g⟩
/-- promise 26 -/
theorem o_keep (H : Ok L xs h) (x y t : Int32) {F : Int32 → xH → Prop} (hF : Nx L xs (p_M_keep (12, 0) x y t) F) : p_T_keep (11, 0) x y t h F := by
  obtain ⟨nr, nt, i⟩ := H
  have hnt := i.vc.2.1
  have ent := i.vc.2.2.2.2.2
  unfold p_T_keep
  refine w_isWindow (fun c => ⟨fun _ => hF _ _ i.vs (fun G hG => ?_), fun z => absurd rfl z⟩) (fun w hw e => ⟨fun z => absurd z (by decide), fun _ => ⟨rfl, w_findTicket i (fun hno => ⟨fun z => absurd rfl z, fun _ => hF _ _ i.vs (fun G hG => ?_)⟩) (fun t' ht et => ⟨fun _ => w_refuseSlip i (fun c => absurd e (c w hw)) (fun w2 hw2 e2 => ?_), fun z => absurd z (nz 9 t')⟩)⟩⟩)
  · unfold p_M_keep
    exact w_mWindow (fun _ => ⟨fun _ => hG h ⟨nr, nt, i⟩, fun z => absurd rfl z⟩) (fun w hw e => absurd e (c w hw))
  · unfold p_M_keep
    exact w_mWindow (fun c => absurd e (c w hw)) (fun w' _ _ => ⟨fun z => absurd z (by decide), fun _ => ⟨rfl, w_isTicket hnt ent (fun _ => ⟨fun z => absurd rfl z, fun _ => hG h ⟨nr, nt, i⟩⟩) (fun j hj e => absurd e (hno j hj))⟩⟩)
  · subst e; subst et
    rw [nI_inj (by omega) (by omega)] at e2
    subst e2
    by_cases k0 : lkS (hI h) w y = 0
    · rw [k0]
      obtain ⟨n, j, n1, n2, ey, -, -, -, sl⟩ := lkS_0 i hw k0
      subst ey
      obtain ⟨r1, r2, r3, r4, r5, r6, r7, r8⟩ := slipR (j := j) i hw (by omega)
      refine ⟨fun _ => ?_, fun z => absurd rfl z⟩
      show _ ∧ _
      rw [show hp h 0 = h from rfl, r1, r2, cl_n (by omega), cl_n (by omega), r3, r4, r5, r6]
      refine ⟨rfl, in_n (by omega) (by omega), rfl, rfl, in_n (by omega) (by omega), rfl, rfl, fun h0 e0 h1 e1 => ?_⟩
      have sC : Sm KC h h1 := by rw [e1, e0]; exact ((Sm.rf _ h).si _ (by simp [KC])).si _ (by simp [KC])
      have s1 : Sm (KL [((9, 12 * w + j), 1), ((9, 12 * w + j), 2), ((87, 0), 12 * w + j), ((88, 0), 12 * w + j)]) h h1 := by rw [e1, e0]; exact ((Sm.rf _ h).si _ (by simp [KL])).si _ (by simp [KL])
      have m : ShM (hS h1) (hR h1) := by rw [s1.2.1, s1.2.2]; exact i.m
      refine hF _ _ (i.vs.fr sC (fun n j k => k.2.2)) (fun G hG => ?_)
      unfold p_M_keep
      refine w_mWindow (fun c => absurd rfl (c w hw)) (fun w' _ _ => ⟨fun z => absurd z (by decide), fun _ => ⟨rfl, w_isTicket hnt (by rw [s1.1 _ _ (by simp [KL])]; exact ent) (fun c => absurd rfl (c t' ht)) (fun _ _ _ => ⟨fun _ => w_lacks m hw (DW_eq (KC_m sC) (dw_of i hw)) ?_, fun z => absurd z (by decide)⟩)⟩⟩)
      rw [lkS_eq (KC_m sC), k0, mR53 m, mS53 m, ix12, cl_n (by omega)]
      refine ⟨fun _ => ⟨rfl, in_n (by omega) (by omega), fun h2 e2 => ?_⟩, fun z => absurd (by decide) z⟩
      have m2 : ShM (hS h2) (hR h2) := by rw [e2]; exact m
      rw [mR54 m2, mS54 m2]
      refine ⟨rfl, in_n (by omega) (by omega), fun h3 e3 => ?_⟩
      have s2 : Sm (KL [((9, 12 * w + j), 1), ((9, 12 * w + j), 2), ((87, 0), 12 * w + j), ((88, 0), 12 * w + j)]) h h3 := by rw [e3, e2]; exact (s1.si _ (by simp [KL])).si _ (by simp [KL])
      refine hG h3 ⟨nr, nt, i.updL s2 (vw := Or.inr (VW_sl (fun _ _ => s2.1 _ _ (by simp [KL])) (fun _ _ => s2.1 _ _ (by simp [KL])) (fun _ _ => s2.1 _ _ (by simp [KL])) (fun s hs sl => ?_) i.vw))⟩
      by_cases es : s = 12 * w + j
      · subst es
        refine ⟨?_, Or.inr (Or.inl ⟨?_, ?_, t', ht, ?_⟩)⟩ <;> rw [e3, e2, e1, e0] <;> simp [hI_sI]
      · exact oth es (fun n q hn => s2.1 n q (fun z => hn (by simp [KL] at z; rcases z with ⟨rfl, rfl⟩ | ⟨rfl, rfl⟩ | ⟨rfl, rfl⟩ | ⟨rfl, rfl⟩ <;> simp))) sl
    · refine ⟨fun z => absurd ((cd_0 (lkS_lt _ _ _)).mp z) k0, fun _ => fin_find i k0 (lkS_lt _ _ _) hF (fun G g => ?_)⟩
      unfold p_M_keep
      refine w_mWindow (fun c => absurd rfl (c w hw)) (fun w' _ _ => ⟨fun z => absurd z (by decide), fun _ => ⟨rfl, w_isTicket hnt (by rw [(fd_sl h _).1 _ _ (by simp [KL])]; exact ent) (fun c => absurd rfl (c t' ht)) (fun _ _ _ => ⟨fun _ => w_lacks (h := fd h _) i.m hw (DW_eq (KC_m (fd_sm h _)) (dw_of i hw)) ?_, fun z => absurd z (by decide)⟩)⟩⟩)
      rw [lkS_eq (KC_m (fd_sm h _))]
      exact ⟨fun z => absurd ((nI_le0 (lkS_lt _ _ _)).mp z) k0, fun _ => g⟩
end Slips3
