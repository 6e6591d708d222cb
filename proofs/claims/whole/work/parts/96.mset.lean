section MSet
variable {qq : Prop} {L : Nat} {xs : Nat → Int32} {nr nt : Nat} {v v0 h g : xH}
theorem scp_eq {w : xH} (s : Sm KSc v w) : scp (hI w) = scp (hI v) := by
  funext p; unfold scp
  rw [s.1 (12, 0) 11 (fun z => by
    rcases z with z | z | z
    · simp at z
    · simp at z
    · simp at z)]
/-- the model groups and figures a pool -/
theorem w_gfM (i : InvQ qq L xs nr nt v) (s : SMx v g) {p : Nat} (hp : p < 49) (there : hI v (40, 0) p = 1) (uns : hI v (43, 0) p = 0) {at1 at2 : Nat → Nat} (A1 : AtH g (67, 0) at1) (A2 : kf p = 4 → AtH g (68, 0) at2) (hW : Wc (kf p) (rnOf v (frp (hI v) p)) at1 at2 = Wp v p) {Q : xH → Prop}
    (q : ∀ g5 G gl, SMx v g5 → (∀ j, hI g5 (67, 0) j = hI g (67, 0) j) → Sm KM g g5 → G ≤ 200 → GR0 g5 (hI v) p nt 0 G gl → FgR g5 (kf p) (lls p) (lvl (hI v) nt p) (Wp v p) 0 G gl (nI (lvu (hI v) nt p)) (hI v (42, 0) p) (hI v (41, 0) p) (hI v (50, 0) p) → Q g5) : ∀ h2, h2 = sI g (12, 0) 35 0 → p_M_group (12, 0) (nI p) h2 (fun h4 : xH => p_M_figure (12, 0) (nI p) (0 : Int32) (hI h4 (12, 0) 35) h4 Q) := by
  intro h2 q2
  have hnt := i.vc.2.1
  obtain ⟨un, de, ca, b⟩ := bk i hp there (by rw [uns]; decide)
  have Z2 : Sm KSc g h2 := by rw [q2]; exact (Sm.rf _ g).si _ (Or.inr (Or.inr ⟨rfl, Or.inl rfl⟩))
  have s2 := s.tr Z2
  obtain ⟨w2, iw2, sw2, kw2⟩ := SMx.up i s2
  have E2 := scr_eq kw2
  have tk : tkc (hI w2) nt p ≤ nt := cn_le _ _
  refine w_group iw2 sw2 hp (F := 0) (by rw [q2, hI_sI, if_pos ⟨rfl, rfl⟩]; rfl) (by omega) (fun g4 G gl S4 _ r4 => ?_)
  show p_M_figure _ _ _ _ _ _
  rw [r4.1]
  have Z4 : Sm KSc g g4 := Z2.tr (S4.mono kx_G)
  have s4 := s.tr Z4
  obtain ⟨w4, iw4, sw4, kw4⟩ := SMx.up i s4
  have E4 := scr_eq kw4
  have hG : G ≤ 200 := r4.G (nt := nt) (by omega) (Nat.le_refl _)
  have o67 : ∀ k j, k = 67 ∨ k = 68 → hI g4 (k, 0) j = hI g (k, 0) j := fun k j hk => by
    rw [S4.1 _ _ (fun z => by
      rcases z with z | z | z | z | z
      · have := congrArg Prod.fst z.1; simp at this; omega
      all_goals (have := congrArg Prod.fst z; simp at this; omega)), q2, hI_sI, if_neg (fun z => by have := congrArg Prod.fst z.1; simp at this; omega)]
  have m4 := SM.m iw4 sw4
  refine w_fgI iw4 sw4 hp (by rw [E4.2.2.2.2.2.2.1]; exact there) (E4.2.2.2.2.1 _ _ _ _ _ _ b) (F := 0) (r4.to0.cg (E4.1.trans E2.1.symm)) hG ⟨rfl, mS33 m4, fun k hk => by rw [o67 67 k (by simp)]; exact A1.2.2 k hk⟩ (fun e => ⟨rfl, mS34 m4, fun k hk => by rw [o67 68 k (by simp)]; exact (A2 e).2.2 k hk⟩) (fun g5 S5 fg => ?_)
  rw [E4.1, E4.2.2.1, E4.2.2.2.1, hW] at fg
  refine q g5 G gl (s4.tr (S5.mono kx_F)) (fun j => by rw [S5.1 _ _ (by simp [KF])]; exact o67 67 j (by simp)) (((show Sm KM g h2 by rw [q2]; exact (Sm.rf _ g).si _ (by simp [KM])).tr (S4.mono (fun n j z => by rcases z with z | z | z | z | z <;> simp [KM, z]))).tr (S5.mono (fun n j z => by rcases z with z | z <;> simp [KM, z]))) hG ?_ ?_
  · exact (r4.to0.cg E2.1.symm).fr (fun k x h1 h2 _ => S5.1 _ _ (fun z => by
      rcases z with z | z
      · have := congrArg Prod.fst z.1; simp at this; omega
      · have := congrArg Prod.fst z; simp at this; omega))
  · rw [b.2.1, b.2.2.1, b.2.2.2.1]; exact fg
theorem SMx.trans {w : xH} (a : SMx w v) (b : SMx v g) : SMx w g := ⟨fun n j h1 h3 => (b.1 n j h1 h3).trans (a.1 n j h1 h3), b.2.1.trans a.2.1, b.2.2.trans a.2.2⟩
/-- counting goes alike where the heaps are alike -/
theorem cts_cg {B : xH} {p : Nat} {gt : Nat → Int32} (kb : Sm KE v B) : ∀ t n j, hI B n j = hI v n j → hI (cts p gt B t) n j = hI (cts p gt v t) n j
  | 0, n, j, e => e
  | t + 1, n, j, e => by
    have ih := cts_cg (gt := gt) (p := p) kb t
    have o : ∀ k, 58 ≤ k ∧ k ≤ 64 → hI (cts p gt B t) (k, 0) t = hI (cts p gt v t) (k, 0) t := fun k hk => ih _ _ (kb.1 _ _ (ke_k (by omega)))
    have et : tl (hI (cts p gt B t)) t = tl (hI (cts p gt v t)) t := by unfold tl; rw [o 58 (by omega), o 59 (by omega), o 60 (by omega), o 61 (by omega)]
    unfold cts ct1
    rw [o 58 (by omega), o 63 (by omega), et]
    by_cases c : hI (cts p gt v t) (58, 0) t = nI p ∧ hI (cts p gt v t) (63, 0) t = 0
    · rw [if_pos c, if_pos c, hI_sI, hI_sI, hI_sI, hI_sI, ih n j e]
    · rw [if_neg c, if_neg c]; exact ih n j e
/-- nothing is carried -/
theorem cry_0 (w : xH) (nr p : Nat) : SMx (cry w nr p 0) w := by
  unfold cry
  have key : ∀ o, SMx (cry1 w 0 o) w := fun o => by
    cases o with
    | none =>
      unfold cry1
      refine ⟨fun n j h1 _ => ?_, rfl, rfl⟩
      rw [hI_sI, hI_sI, Int32.add_zero, Int32.add_zero]
      by_cases c : n = (12, 0) ∧ j = 22
      · rw [if_pos c, c.1, c.2]
      · rw [if_neg c]
        by_cases d : n = (11, 0) ∧ j = 12
        · rw [if_pos d, d.1, d.2]
        · rw [if_neg d]
    | some a =>
      unfold cry1
      refine ⟨fun n j h1 _ => ?_, rfl, rfl⟩
      rw [hI_sI, hI_sI, Int32.add_zero, Int32.add_zero]
      by_cases c : n = (50, 0) ∧ j = 4 * a + 3
      · rw [if_pos c, c.1, c.2]
      · rw [if_neg c]
        by_cases d : n = (19, 4 * a + 3) ∧ j = 4
        · rw [if_pos d, d.1, d.2]
        · rw [if_neg d]
  exact key _
end MSet
