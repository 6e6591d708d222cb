section MSet2
variable {qq : Prop} {L : Nat} {xs : Nat → Int32} {nr nt : Nat} {v v0 h g : xH}
/-- a pool that is not settled has no entries yet -/
theorem uns_0 (i : InvQ qq L xs nr nt v) {p : Nat} (hp : p < 49) (uns : hI v (43, 0) p = 0) : hI v (49, 0) p = 0 ∧ hI v (51, 0) p = 0 ∧ hI v (52, 0) p = 0 ∧ hI v (53, 0) p = 0 ∧ hI v (54, 0) p = 0 ∧ (kf p ≠ 3 → hI v (50, 0) p = 0) := by
  obtain ⟨ca, dd, re, v1, v2, v3, v4, v5, v6⟩ := i.vm
  have z := v5 p hp (by rw [uns]; decide)
  exact ⟨by rw [v2 p hp, z.1]; rfl, z.2.1, z.2.2.1, z.2.2.2.1, z.2.2.2.2, fun k => by rw [v1 p hp, v4 p hp k]; rfl⟩
theorem ent_m (w : xH) (p : Nat) (x3 x5 x6 x7 x8 : Int32) (n : xN) (j : Nat) (hn : 34 ≤ n.1 ∨ n.1 = 12) : hI (ent w p x3 x5 x6 x7 x8) n j = if n = (43, 0) ∧ j = p then 1 else if n = (54, 0) ∧ j = p then x8 else if n = (53, 0) ∧ j = p then x7 else if n = (52, 0) ∧ j = p then x6 else if n = (51, 0) ∧ j = p then x5 else if n = (49, 0) ∧ j = p then x3 else hI w n j := by
  have ne : ∀ a, ¬ (n = (19, p) ∧ j = a) := fun a z => by rw [z.1] at hn; simp at hn
  unfold ent
  rw [hI_sI, hI_sI, hI_sI, hI_sI, hI_sI, hI_sI, hI_sI, if_neg (ne _), hI_sI, if_neg (ne _), hI_sI, if_neg (ne _), hI_sI, if_neg (ne _), hI_sI, if_neg (ne _), hI_sI, if_neg (ne _)]
theorem runH_of (i : InvQ qq L xs nr nt v) {p : Nat} (hp : p < 49) (there : hI v (40, 0) p = 1) (hk : kf p = 1 ∨ kf p = 2 ∨ kf p = 3) (m : ShM (hS g) (hR g)) (e36 : ∀ j, hI g (36, 0) j = hI v (36, 0) j) (e38 : ∀ j, hI g (38, 0) j = hI v (38, 0) j) : RunH g p (rnOf v (frp (hI v) p)) := by
  have rc := prc i hp there
  have hnr := i.vc.1
  have n48 : p ≠ 48 := fun e => by have := rc.2.2.2.mp e; omega
  have fr : frp (hI v) p = p / 4 := by unfold frp; rw [if_neg n48]
  have rr := rn_of i rc.1
  obtain ⟨n, u, a1, a2, a3, a4, a5, -⟩ := VR_run i.vr rc.1
  refine ⟨rr.2, fun Q q => ?_⟩
  refine w_running m (j := p / 4) (n := n) (by omega) (by rw [e36, ← fr]; exact a5) a2 ?_
  have e : (fun k => decide (hI g (38, 0) (13 * (p / 4) + (k + 1)) = 0)) = (fun k => decide (hI v (38, 0) (13 * (p / 4) + (k + 1)) = 0)) := funext (fun k => by rw [e38])
  have e2 : rnOf v (frp (hI v) p) = cn (fun k => decide (hI v (38, 0) (13 * (p / 4) + (k + 1)) = 0)) n := by
    unfold rnOf; rw [a5, cl_n (by omega), fr]
  rw [e, ← e2]
  exact q
/-- the model refunds a pool: all but what it carries -/
theorem w_refM (i : InvQ qq L xs nr nt v) {g8 : xH} {p : Nat} (hp : p < 49) (uns : hI v (43, 0) p = 0) (s8 : SMx (sI v (43, 0) p 1) g8) {l2 : Int32} {K : xH → Prop} {Q : xH → Prop} (q : ∀ g', SMx (ent (rfs p v nt) p 0 0 0 0 0) g' → (∀ j, hI g' (67, 0) j = hI g8 (67, 0) j) → Sm KM g8 g' → K g') : ∃ f, p_M_settle_L62 (12, 0) (nI p) l2 K Q f 0 g8 := by
  have sq : SMq p v g8 := ⟨fun n j h1 h2 h3 => by
    rw [s8.1 n j h1 h2, hI_sI, if_neg h3], s8.2.1, s8.2.2⟩
  have f43 : hI g8 (43, 0) p = 1 := by rw [s8.1 _ _ (Or.inl (by simp)) (ksc_k (by omega)), hI_sI, if_pos ⟨rfl, rfl⟩]
  obtain ⟨ii, kk⟩ := rfs_inv i hp uns nt (Nat.le_refl _)
  have u0 := uns_0 ii hp (by rw [kk.1 _ _ (by simp [KK])]; exact uns)
  refine w_mrefAll2 i sq hp uns f43 (fun g' S f z7 zm => q g' ⟨fun n j h1 h2 => ?_, S.2.1, S.2.2⟩ z7 zm)
  rw [ent_m _ _ _ _ _ _ _ n j h1]
  by_cases c : n = (43, 0) ∧ j = p
  · rw [if_pos c, c.1, c.2]; exact f
  rw [if_neg c, S.1 n j h1 h2 c]
  by_cases c1 : n = (54, 0) ∧ j = p
  · rw [if_pos c1, c1.1, c1.2]; exact u0.2.2.2.2.1
  rw [if_neg c1]
  by_cases c2 : n = (53, 0) ∧ j = p
  · rw [if_pos c2, c2.1, c2.2]; exact u0.2.2.2.1
  rw [if_neg c2]
  by_cases c3 : n = (52, 0) ∧ j = p
  · rw [if_pos c3, c3.1, c3.2]; exact u0.2.2.1
  rw [if_neg c3]
  by_cases c4 : n = (51, 0) ∧ j = p
  · rw [if_pos c4, c4.1, c4.2]; exact u0.2.1
  rw [if_neg c4]
  by_cases c5 : n = (49, 0) ∧ j = p
  · rw [if_pos c5, c5.1, c5.2]; exact u0.1
  rw [if_neg c5]
end MSet2
