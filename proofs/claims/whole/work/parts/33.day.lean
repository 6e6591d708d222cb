section Day
variable {L : Nat} {xs : Nat → Int32} {h : xH}
theorem VR_run {I : xN → Nat → Int32} {nr r : Nat} (v : VR I nr) (hr : r < nr) : ∃ n u, 2 ≤ n ∧ n ≤ 12 ∧ u ≤ n ∧ I (6, r) 0 = nI n ∧ I (36, 0) r = nI n ∧ I (6, r) 8 = nI u ∧ I (37, 0) r = nI u ∧ I (6, r) 6 = nI (cn (fun k => decide (I (38, 0) (13 * r + (k + 1)) = 0)) n) := (v.1 r hr).1
/-- promise 7 -/
theorem o_off (H : Ok L xs h) (r : Int32) {F : Int32 → xH → Prop} (hF : ∀ a h1, VS (hS h1) (hI h1) L xs → (∀ G : Int32 → xH → Prop, (∀ h2, Ok L xs h2 → G a h2) → p_M_off (12, 0) r h1 G) → F a h1) : p_T_off (11, 0) r h F := by
  obtain ⟨nr, nt, i⟩ := H
  have hnr := i.vc.1
  unfold p_T_off
  refine ⟨rfl, w_findRace i (fun hno => ⟨fun z => absurd rfl z, fun _ => hF _ _ i.vs (fun G hG => ?_)⟩) (fun j hj e => ?_)⟩
  · unfold p_M_off
    exact ⟨rfl, w_isRace i.md (fun _ => ⟨fun z => absurd rfl z, fun _ => hG h ⟨nr, nt, i⟩⟩) (fun j hj e => absurd e (hno j hj))⟩
  · subst e
    obtain ⟨n, u, a1, a2, a3, a4, a5, a6, a7, a8⟩ := VR_run i.vr hj
    have vr := i.vr.1 j hj
    refine ⟨fun _ => ⟨rfl, fun c => ?_, fun c => hF _ _ i.vs (fun G hG => ?_)⟩, fun z => absurd z (nz 5 j)⟩
    · intro h1 e1
      have s1 : Sm (KL [((6, j), 7), ((35, 0), j)]) h h1 := by rw [e1]; exact (Sm.rf _ h).si _ (by simp [KL])
      have sC : Sm KC h h1 := by rw [e1]; exact (Sm.rf _ h).si _ (by simp [KC])
      have d := i.md.fr sC
      have e35 : hI h1 (35, 0) j = 0 := by rw [sC.1 _ _ (by simp [KC]), ← vr.2.1]; exact c
      refine hF _ _ (i.vs.fr sC (fun n j k => k.2.2)) (fun G hG => ?_)
      unfold p_M_off
      refine ⟨rfl, w_isRace d (fun c => absurd rfl (c j hj)) (fun j' hj' _ => ⟨fun _ => ?_, fun z => absurd z (by decide)⟩)⟩
      rw [mR1 d.1, mS1 d.1, cl_n (by omega), e35]
      refine ⟨rfl, in_n (by omega) (by omega), fun _ => ⟨in_n (by omega) (by omega), fun h2 e2 => ?_⟩, fun z => absurd rfl z⟩
      have s2 : Sm (KL [((6, j), 7), ((35, 0), j)]) h h2 := by rw [e2]; exact s1.si _ (by simp [KL])
      have i38 : ∀ q, hI h2 (38, 0) q = hI h (38, 0) q := fun q => s2.1 _ _ (by simp [KL])
      refine w_running (by rw [s2.2.1, s2.2.2]; exact i.m) (by omega) (n := n) (by rw [s2.1 _ _ (by simp [KL])]; exact a5) a2 ?_
      have ea : hI h1 (6, j) 6 = nI (cn (fun k => decide (hI h2 (38, 0) (13 * j + (k + 1)) = 0)) n) := by
        simp only [i38]
        rw [s1.1 _ _ (by simp [KL])]
        exact a8
      rw [← ea]
      have x35 : ∀ r, hI h2 (35, 0) r = if r = j then 1 else hI h (35, 0) r := by
        intro r
        rw [e2, hI_sI, e1, hI_sI]
        by_cases e : r = j <;> simp [e]
      have c' : hI h (35, 0) j = 0 := by rw [← vr.2.1]; exact c
      refine hG h2 ⟨nr, nt, i.updL s2 (vr := Or.inr ⟨fun r hr => ?_, fun q hq => ?_⟩) (vf := Or.inr fun r hr z => ?_) (vq := Or.inr fun p hp z => ?_)⟩
      · have v := i.vr.1 r hr
        rw [e2, e1]
        simp only [hI_sI, Prod.mk.injEq]
        by_cases e : r = j
        · subst e; simpa using And.intro v.1 v.2.2.2
        · simpa [e] using v
      · rw [e2, e1]
        simpa [hI_sI] using i.vr.2 q hq
      · rw [x35] at z
        by_cases e : r = j
        · rw [if_pos e] at z; exact absurd z (by decide)
        · rw [if_neg e] at z
          exact frK (C := fun I => VF1 I r) (rd := rdVF1) (fun _ => rfl) s2 (all_rd rfl) (i.vf r hr z)
      · have v := i.vq p hp (by rw [s2.1 _ _ (by simp [KL])] at z; exact z)
        have f1 : frp (hI h2) p = frp (hI h) p := by unfold frp; rw [s2.1 _ _ (by simp [KL])]
        have f2 : scp (hI h2) p = scp (hI h) p := by unfold scp; rw [s2.1 _ _ (by simp [KL])]
        rw [f1, f2, x35, x35, s2.1 (43, 0) p (by simp [KL])]
        have k1 : ∀ r, (if r = j then (1 : Int32) else hI h (35, 0) r) = 2 ↔ hI h (35, 0) r = 2 := by
          intro r
          by_cases e : r = j
          · rw [if_pos e, e, c']; decide
          · rw [if_neg e]
        rw [k1, k1]
        exact v
    · unfold p_M_off
      rw [vr.2.1] at c
      refine ⟨rfl, w_isRace i.md (fun c => absurd rfl (c j hj)) (fun j' hj' _ => ⟨fun _ => ?_, fun z => absurd z (by decide)⟩)⟩
      rw [mR1 i.m, mS1 i.m, cl_n (by omega)]
      exact ⟨rfl, in_n (by omega) (by omega), fun z => absurd z c, fun _ => hG h ⟨nr, nt, i⟩⟩
end Day
