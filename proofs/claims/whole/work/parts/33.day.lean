section Day
variable {L : Nat} {xs : Nat → Int32} {h : xH}
theorem VR_run {I : xN → Nat → Int32} {nr r : Nat} (v : VR I nr) (hr : r < nr) : ∃ n u, 2 ≤ n ∧ n ≤ 12 ∧ u ≤ n ∧ I (6, r) 0 = nI n ∧ I (36, 0) r = nI n ∧ I (6, r) 8 = nI u ∧ I (37, 0) r = nI u ∧ I (6, r) 6 = nI (cn (fun k => decide (I (38, 0) (13 * r + (k + 1)) = 0)) n) := (v.1 r hr).1
/-- promise 7 -/
theorem o_off (H : Ok L xs h) (r : Int32) {F : Int32 → xH → Prop} (hF : ∀ a h1, VS (hS h1) (hI h1) L xs → (∀ G : Int32 → xH → Prop, (∀ h2, Ok L xs h2 → G a h2) → p_M_off (12, 0) r h1 G) → F a h1) : p_T_off (11, 0) r h F := by
  obtain ⟨nr, nt, i⟩ := H
  have hnr := i.vc.1
  unfold p_T_off
  refine ⟨rfl, w_findRace i (fun hno => ⟨fun z => absurd rfl z, fun _ => hF _ _ i.vs (fun G hG => ?_)⟩) (fun j hj e => ?_)⟩
  · unfold p_M_off
    exact ⟨rfl, w_isRace i.md (fun _ => ⟨fun z => absurd rfl z, fun _ => hG h ⟨nr, nt, i⟩⟩) (fun j hj e => absurd e (hno j hj))⟩
  · subst e
    obtain ⟨n, u, a1, a2, a3, a4, a5, a6, a7, a8⟩ := VR_run i.vr hj
    have vr := i.vr.1 j hj
    refine ⟨fun _ => ⟨rfl, fun c => ?_, fun c => hF _ _ i.vs (fun G hG => ?_)⟩, fun z => absurd z (nz 5 j)⟩
    · intro h1 e1
      have s1 : Sm (KL [((6, j), 7), ((35, 0), j)]) h h1 := by rw [e1]; exact (Sm.rf _ h).si _ (by simp [KL])
      have sC : Sm KC h h1 := by rw [e1]; exact (Sm.rf _ h).si _ (by simp [KC])
      have d := i.md.fr sC
      have e35 : hI h1 (35, 0) j = 0 := by rw [sC.1 _ _ (by simp [KC]), ← vr.2.1]; exact c
      refine hF _ _ (i.vs.fr sC (fun n j k => k.2.2)) (fun G hG => ?_)
      unfold p_M_off
      refine ⟨rfl, w_isRace d (fun c => absurd rfl (c j hj)) (fun j' hj' _ => ⟨fun _ => ?_, fun z => absurd z (by decide)⟩)⟩
      rw [mR1 d.1, mS1 d.1, cl_n (by omega), e35]
      refine ⟨rfl, in_n (by omega) (by omega), fun _ => ⟨in_n (by omega) (by omega), fun h2 e2 => ?_⟩, fun z => absurd rfl z⟩
      have s2 : Sm (KL [((6, j), 7), ((35, 0), j)]) h h2 := by rw [e2]; exact s1.si _ (by simp [KL])
      have i38 : ∀ q, hI h2 (38, 0) q = hI h (38, 0) q := fun q => s2.1 _ _ (by simp [KL])
      refine w_running (by rw [s2.2.1, s2.2.2]; exact i.m) (by omega) (n := n) (by rw [s2.1 _ _ (by simp [KL])]; exact a5) a2 ?_
      have ea : hI h1 (6, j) 6 = nI (cn (fun k => decide (hI h2 (38, 0) (13 * j + (k + 1)) = 0)) n) := by
        simp only [i38]
        rw [s1.1 _ _ (by simp [KL])]
        exact a8
      rw [← ea]
      have x35 : ∀ r, hI h2 (35, 0) r = if r = j then 1 else hI h (35, 0) r := by
        intro r
        rw [e2, hI_sI, e1, hI_sI]
        by_cases e : r = j <;> simp [e]
      have c' : hI h (35, 0) j = 0 := by rw [← vr.2.1]; exact c
      refine hG h2 ⟨nr, nt, i.updL s2 (vr := Or.inr ⟨fun r hr => ?_, fun q hq => ?_⟩) (vf := Or.inr fun r hr z => ?_) (vq := Or.inr (mkq fun p hp z => ?_))⟩
      · have v := i.vr.1 r hr
        rw [e2, e1]
        simp only [hI_sI, Prod.mk.injEq]
        by_cases e : r = j
        · subst e; simpa using And.intro v.1 v.2.2.2
        · simpa [e] using v
      · rw [e2, e1]
        simpa [hI_sI] using i.vr.2 q hq
      · rw [x35] at z
        by_cases e : r = j
        · rw [if_pos e] at z; exact absurd z (by decide)
        · rw [if_neg e] at z
          exact frK (C := fun I => VF1 I r) (rd := rdVF1) (fun _ => rfl) s2 (all_rd rfl) (i.vf r hr z)
      · have v := i.vq p hp (by rw [s2.1 _ _ (by simp [KL])] at z; exact z)
        have f1 : frp (hI h2) p = frp (hI h) p := by unfold frp; rw [s2.1 _ _ (by simp [KL])]
        have f2 : scp (hI h2) p = scp (hI h) p := by unfold scp; rw [s2.1 _ _ (by simp [KL])]
        rw [f1, f2, x35, x35, s2.1 (43, 0) p (by simp [KL])]
        have k1 : ∀ r, (if r = j then (1 : Int32) else hI h (35, 0) r) = 2 ↔ hI h (35, 0) r = 2 := by
          intro r
          by_cases e : r = j
          · rw [if_pos e, e, c']; decide
          · rw [if_neg e]
        rw [k1, k1]
        exact v
    · unfold p_M_off
      rw [vr.2.1] at c
      refine ⟨rfl, w_isRace i.md (fun c => absurd rfl (c j hj)) (fun j' hj' _ => ⟨fun _ => ?_, fun z => absurd z (by decide)⟩)⟩
      rw [mR1 i.m, mS1 i.m, cl_n (by omega)]
      exact ⟨rfl, in_n (by omega) (by omega), fun z => absurd z c, fun _ => hG h ⟨nr, nt, i⟩⟩
/-- what a call of the class owes, and what the model's then does -/
abbrev Nx (L : Nat) (xs : Nat → Int32) (pm : xH → (Int32 → xH → Prop) → Prop) (F : Int32 → xH → Prop) : Prop := ∀ a h1, VS (hS h1) (hI h1) L xs → (∀ G : Int32 → xH → Prop, (∀ h2, Ok L xs h2 → G a h2) → pm h1 G) → F a h1
/-- promise 19 -/
theorem o_rest (H : Ok L xs h) {F : Int32 → xH → Prop} (hF : Nx L xs (p_M_rest (12, 0)) F) : p_T_rest (11, 0) h F := by
  obtain ⟨nr, nt, i⟩ := H
  exact ⟨rfl, hF _ _ i.vs (fun G hG => ⟨rfl, by rw [← i.vn.1]; exact hG h ⟨nr, nt, i⟩⟩)⟩
/-- promise 22 -/
theorem o_worstDue (H : Ok L xs h) {F : Int32 → xH → Prop} (hF : Nx L xs (p_M_worstDue (12, 0)) F) : p_T_worstDue (11, 0) h F := by
  obtain ⟨nr, nt, i⟩ := H
  exact ⟨rfl, hF _ _ i.vs (fun G hG => ⟨rfl, by rw [← i.vn.2.1]; exact hG h ⟨nr, nt, i⟩⟩)⟩
/-- promise 39 -/
theorem o_came (H : Ok L xs h) {F : Int32 → xH → Prop} (hF : Nx L xs (p_M_came (12, 0)) F) : p_T_came (11, 0) h F := by
  obtain ⟨nr, nt, i⟩ := H
  exact ⟨rfl, hF _ _ i.vs (fun G hG => ⟨rfl, by rw [← i.vn.2.2.1]; exact hG h ⟨nr, nt, i⟩⟩)⟩
/-- promise 48 -/
theorem o_finding (H : Ok L xs h) {F : Int32 → xH → Prop} (hF : Nx L xs (p_M_finding (12, 0)) F) : p_T_finding (11, 0) h F := by
  obtain ⟨nr, nt, i⟩ := H
  exact ⟨rfl, hF _ _ i.vs (fun G hG => ⟨rfl, by rw [← i.vn.2.2.2.1]; exact hG h ⟨nr, nt, i⟩⟩)⟩
theorem sub1 {n : Nat} (hn : n < 1000000) : (nI n - 1).toInt = (n : Int) - 1 := pk_sub_toInt (a := n) (b := 1) (by omega) (by omega)
/-- promise 47 -/
theorem o_trace (H : Ok L xs h) (k : Int32) {F : Int32 → xH → Prop} (hF : Nx L xs (p_M_trace (12, 0) k) F) : p_T_trace (11, 0) k h F := by
  obtain ⟨nr, nt, i⟩ := H
  obtain ⟨n, b1, b2, b3, b4⟩ := i.vb
  have e0 : (0 : Int32).toInt = 0 := rfl
  have no : ¬ (0 ≤ k.toInt ∧ k.toInt < n) → F (-1) h := fun c => hF _ _ i.vs (fun G hG => by
    unfold p_M_trace
    rw [b3]
    refine ⟨rfl, w_in (fun _ => ⟨fun _ => hG h ⟨nr, nt, i⟩, fun z => absurd rfl z⟩) (fun c2 => ?_)⟩
    rw [sub1 (by omega), e0] at c2
    exact absurd ⟨c2.1, by omega⟩ c)
  unfold p_T_trace
  rw [xR_11_0_5 i.x, xR_2_0_0 i.x, xS_13_0 i.x, b2]
  refine ⟨fun c => no (by rw [ti_lt, e0] at c; omega), fun c => ⟨rfl, rfl, fun c2 => ?_, fun c2 => no (by rw [ti_lt, ti_n (by omega)] at c2; omega)⟩⟩
  obtain ⟨q, hq, rfl⟩ := arg_lt c c2 (by omega)
  rw [cl_n (by omega), b4 q hq]
  refine ⟨rfl, in_n (by omega) (by omega), hF _ _ i.vs (fun G hG => ?_)⟩
  unfold p_M_trace
  rw [b3]
  refine ⟨rfl, w_in (fun c3 => ?_) (fun _ => ⟨fun z => absurd z (by decide), fun _ => ?_⟩)⟩
  · rw [sub1 (by omega), e0, ti_n (by omega)] at c3
    omega
  · rw [mR67 i.m, mS67 i.m, cl_n (by omega)]
    exact ⟨rfl, in_n (by omega) (by omega), hG h ⟨nr, nt, i⟩⟩
/-- promise 5 -/
theorem o_substitute (H : Ok L xs h) (r x : Int32) {F : Int32 → xH → Prop} (hF : Nx L xs (p_M_substitute (12, 0) r x) F) : p_T_substitute (11, 0) r x h F := by
  obtain ⟨nr, nt, i⟩ := H
  have hnr := i.vc.1
  unfold p_T_substitute
  refine ⟨rfl, w_findRace i (fun hno => ?_) (fun j hj e => ?_)⟩
  · unfold p_T_refuseRunner
    refine ⟨fun z => absurd rfl z, fun _ => ⟨fun _ => hF _ _ i.vs (fun G hG => ?_), fun z => absurd rfl z⟩⟩
    unfold p_M_substitute
    exact ⟨rfl, w_barsNo i.md hno ⟨fun z => absurd z (by decide), fun _ => hG h ⟨nr, nt, i⟩⟩⟩
  · subst e
    obtain ⟨n, u, a1, a2, a3, a4, a5, a6, a7, a8⟩ := VR_run i.vr hj
    have vr := i.vr.1 j hj
    have e35 : hR h (12, 0) 1 = (35, 0) := mR1 i.m
    refine w_refuseRunner i hj a4 a2 (fun c => ⟨fun z => absurd z (nz 5 j), fun _ => ⟨fun z => absurd z (by decide), fun _ => hF _ _ i.vs (fun G hG => ?_)⟩⟩) (fun k k1 k2 e c => ⟨fun z => absurd z (nz 5 j), fun _ => ⟨fun z => absurd z (by decide), fun _ => hF _ _ i.vs (fun G hG => ?_)⟩⟩) (fun k k1 k2 e c c2 => ⟨fun z => absurd z (nz 5 j), fun _ => ⟨fun z => absurd z (by decide), fun _ => hF _ _ i.vs (fun G hG => ?_)⟩⟩) (fun k k1 k2 e c c2 => ⟨fun z => absurd z (nz 5 j), fun _ => ⟨fun _ => ⟨rfl, fun v hv h1 e1 => ?_⟩, fun z => absurd rfl z⟩⟩)
    · unfold p_M_substitute
      exact ⟨rfl, w_bars i.md hj a5 a2 (fun _ => ⟨fun z => absurd z (by decide), fun _ => hG h ⟨nr, nt, i⟩⟩) (fun k k1 k2 e _ => absurd e (c k k1 k2)) (fun k k1 k2 e _ => absurd e (c k k1 k2))⟩
    · unfold p_M_substitute
      subst e
      refine ⟨rfl, w_bars i.md hj a5 a2 (fun z => absurd rfl (z k k1 k2)) (fun _ _ _ _ _ => ⟨fun z => absurd z (by decide), fun _ => hG h ⟨nr, nt, i⟩⟩) (fun k' k1' k2' e' c' => ?_)⟩
      rw [nI_inj (by omega) (by omega)] at e'
      rw [← e', c] at c'
      exact absurd c' (by decide)
    · unfold p_M_substitute
      subst e
      refine ⟨rfl, w_bars i.md hj a5 a2 (fun z => absurd rfl (z k k1 k2)) (fun k' k1' k2' e' c' => ?_) (fun _ _ _ _ _ => ⟨fun _ => ?_, fun z => absurd (by decide) z⟩)⟩
      · rw [nI_inj (by omega) (by omega)] at e'
        rw [← e', c] at c'
        exact absurd c' (by decide)
      · rw [mR1 i.m, mS1 i.m, cl_n (by omega)]
        exact ⟨rfl, in_n (by omega) (by omega), fun z => absurd z c2, fun _ => hG h ⟨nr, nt, i⟩⟩
    · subst e
      have sC : Sm KC h h1 := by rw [e1]; exact (Sm.rf _ h).si _ (by simp [KC])
      have s1 : Sm (KL [((6, j), 8), ((37, 0), j)]) h h1 := by rw [e1]; exact (Sm.rf _ h).si _ (by simp [KL])
      have d := i.md.fr sC
      refine hF _ _ (i.vs.fr sC (fun n j k => k.2.2)) (fun G hG => ?_)
      unfold p_M_substitute
      refine ⟨rfl, w_bars d hj (by rw [s1.1 _ _ (by simp [KL])]; exact a5) a2 (fun z => absurd rfl (z k k1 k2)) (fun k' k1' k2' e' c' => ?_) (fun _ _ _ _ _ => ⟨fun _ => ?_, fun z => absurd (by decide) z⟩)⟩
      · rw [nI_inj (by omega) (by omega)] at e'
        rw [← e', s1.1 _ _ (by simp [KL]), c] at c'
        exact absurd c' (by decide)
      · rw [mR1 d.1, mS1 d.1, mR3 d.1, mS3 d.1, cl_n (by omega), s1.1 _ _ (by simp [KL]), c2]
        refine ⟨rfl, in_n (by omega) (by omega), fun _ => ⟨rfl, in_n (by omega) (by omega), fun v2 hv2 => ⟨in_n (by omega) (by omega), fun h2 e2 => ?_⟩⟩, fun z => absurd rfl z⟩
        have s2 : Sm (KL [((6, j), 8), ((37, 0), j)]) h h2 := by rw [e2]; exact s1.si _ (by simp [KL])
        have ev : v2 = v := by rw [hv2, hv, sC.1 _ _ (by simp [KC]), a6, a7]
        rw [ev]
        refine hG h2 ⟨nr, nt, i.updL s2 (vr := Or.inr ⟨fun r hr => ?_, fun q hq => ?_⟩)⟩
        · have v := i.vr.1 r hr
          rw [e2, e1]
          simp only [hI_sI, Prod.mk.injEq]
          by_cases e : r = j
          · subst e
            obtain ⟨n', u', b1, b2, b3, b4, b5, b6, b7, b8⟩ := v.1
            refine ⟨⟨n', k, b1, b2, ?_, by simpa using b4, by simpa using b5, by simp, by simp, by simpa using b8⟩, by simpa using v.2⟩
            rw [a4, nI_inj (by omega) (by omega)] at b4
            omega
          · simpa [e] using v
        · rw [e2, e1]
          simpa [hI_sI] using i.vr.2 q hq
end Day
