section Gather2
variable {L : Nat} {xs : Nat → Int32} {nr nt : Nat} {v h g : xH}
theorem br_kk {w' : xH} (K : Sm (KK [23, 95] [((11, 0), 14), ((12, 0), 62)]) v w') (s : Nat) : br (hI w') s = br (hI v) s := by
  have e : ∀ k q, 34 ≤ k → k ≠ 95 → hI w' (k, 0) q = hI v (k, 0) q := fun k q h1 h2 => K.1 _ _ (by simp [KK]; omega)
  unfold br
  simp only [e 87 _ (by omega) (by omega), e 88 _ (by omega) (by omega)]
theorem cd_ne {c : Nat} (h : c ≠ 0) : cd c = (-10 : Int32) - nI c := by unfold cd; rw [if_neg h]
theorem hp_ne {c : Nat} (hc : c ≠ 0) : hp h c = fd h c := by unfold hp; rw [if_neg hc]
/-- promise 37 -/
theorem o_gather (H : Ok L xs h) (x y w z n : Int32) {F : Int32 → xH → Prop} (hF : Nx L xs (p_M_gather (12, 0) x y w z n) F) : p_T_gather (11, 0) x y w z n h F := by
  obtain ⟨nr, nt, i⟩ := H
  have e0 : (0 : Int32).toInt = 0 := rfl
  have e12 : (12 : Int32).toInt = 12 := rfl
  unfold p_T_gather
  refine w_isSatchel (fun c => ⟨fun _ => hF _ _ i.vs (fun G hG => ?_), fun z => absurd rfl z⟩) (fun s hs e => ⟨fun z => absurd z (by decide), fun _ => ?_⟩)
  · unfold p_M_gather
    exact w_mSatchel (fun _ => ⟨fun _ => hG h ⟨nr, nt, i⟩, fun z => absurd rfl z⟩) (fun w hw e => absurd e (c w hw))
  subst e
  refine w_isWindow (fun c => ⟨fun z => absurd rfl z, fun _ => hF _ _ i.vs (fun G hG => ?_)⟩) (fun wn hw e => ⟨fun _ => ?_, fun z => absurd z (by decide)⟩)
  · unfold p_M_gather
    exact w_mSatchel (fun c => absurd rfl (c s hs)) (fun _ _ _ => ⟨fun z => absurd z (by decide), fun _ => w_mWindow (fun _ => ⟨fun z => absurd rfl z, fun _ => hG h ⟨nr, nt, i⟩⟩) (fun w hw e => absurd e (c w hw))⟩)
  subst e
  have no : ¬ (0 ≤ n.toInt ∧ n.toInt ≤ 12) → F (-3) h := fun c => hF _ _ i.vs (fun G hG => by
    unfold p_M_gather
    exact w_mSatchel (fun c => absurd rfl (c s hs)) (fun _ _ _ => ⟨fun z => absurd z (by decide), fun _ => w_mWindow (fun c => absurd rfl (c wn hw)) (fun _ _ _ => ⟨fun _ => w_in (fun _ => ⟨fun z => absurd rfl z, fun _ => hG h ⟨nr, nt, i⟩⟩) (fun c2 => absurd c2 c), fun z => absurd z (by decide)⟩)⟩))
  refine ⟨fun c => no (by rw [ti_lt, e0] at c; omega), fun c => ⟨fun c2 => ⟨rfl, fun h10 q10 => ?_⟩, fun c2 => no (by rw [ti_le, e12] at c2; omega)⟩⟩
  have hnn : 0 ≤ n.toInt ∧ n.toInt ≤ 12 := by
    rw [ti_lt, e0] at c; rw [ti_le, e12] at c2; omega
  obtain ⟨N, hN, rfl⟩ : ∃ N, N ≤ 12 ∧ n = nI N := ⟨n.toInt.toNat, by omega, by rw [ti_eq, ti_n (by omega)]; omega⟩
  have i0 := z0_inv i
  generalize hv : z0 h = v0 at *
  have sc0 : SC v0 h10 := by rw [← hv, q10]; exact ((SC.rf h).si _ _ _).om (Or.inr (by simp)) _ _
  have sC0 : Sm KC h h10 := by rw [q10]; exact (Sm.rf _ h).si _ (by simp [KC])
  generalize hyk : (fun k => y + nI k) = yk
  have eyk : ∀ k, y + nI k = yk k := fun k => by rw [← hyk]
  generalize hxk : (fun k => br (hI v0) (12 * wn + (z + nI k).toNatClampNeg)) = xk
  have exk : ∀ k, br (hI v0) (12 * wn + (z + nI k).toNatClampNeg) = xk k := fun k => by rw [← hxk]
  generalize hck : (fun k => gcd' (hI v0) s wn (y + nI k) (z + nI k)) = ck
  have eck : ∀ k, gcd' (hI v0) s wn (y + nI k) (z + nI k) = ck k := fun k => by rw [← hck]
  have c7 : ∀ k, ck k < 7 := fun k => by rw [← eck]; exact gcd_lt _ _ _ _ _
  have all : ∀ A, (∀ k, k < A → ck k = 0) → Inv L xs nr nt (gv s yk xk v0 A) ∧ Sm (KK [23, 95] [((11, 0), 14), ((12, 0), 62)]) v0 (gv s yk xk v0 A) := fun A hA =>
    gv_all (n := A) i0 hs (fun k hk => by rw [← eyk]; exact (gcd_0 i0 hs hw ((eck k).trans (hA k hk))).2.2.2.1) (fun k hk => by rw [← exk]; exact (gcd_0 i0 hs hw ((eck k).trans (hA k hk))).2.2.2.2) A (Nat.le_refl _)
  have fin : ∀ A c, A ≤ N → (∀ k, k < A → ck k = 0) → (A = N ∧ c = 0 ∨ A < N ∧ c = ck A ∧ c ≠ 0) → ∀ h', SC (hp (gv s yk xk v0 A) c) h' → Sm KC h h' → F (if c = 0 then nI N else cd c) h' := by
    intro A c hA hck hc h' sc sC
    refine hF _ _ (i.vs.fr sC (fun n j k => k.2.2)) (fun G hG => ?_)
    unfold p_M_gather
    refine w_mSatchel (fun c => absurd rfl (c s hs)) (fun _ _ _ => ⟨fun z => absurd z (by decide), fun _ => w_mWindow (fun c => absurd rfl (c wn hw)) (fun _ _ _ => ⟨fun _ => w_in (fun c => absurd hnn c) (fun _ => ⟨fun _ => ⟨rfl, fun h11 q11 => ⟨A + 1, ?_⟩⟩, fun z => absurd z (by decide)⟩), fun z => absurd z (by decide)⟩)⟩)
    have sm11 : SM v0 h11 := by rw [← hv, q11]; exact ((SM.kc sC).oc ⟨by simp, by simp⟩ _ _).si _ _ _
    have sc11 : SC (hp (gv s yk xk v0 A) c) h11 := by rw [q11]; exact sc.wm (Or.inr (by simp)) _ _
    have key2 : ∀ (m b : Nat) (g' : xH), b + m = A → SM (gv s yk xk v0 b) g' → SC (hp (gv s yk xk v0 A) c) g' → p_M_gather_L39 (12, 0) (nI s) y (nI wn) z (nI N) (fun h => p_M_gather_j176 (12, 0) h G) (fun h => G (nI N) h) G (m + 1) (nI b) g' := by
      intro m
      induction m with
      | zero =>
        intro b g' hb sm sc
        have eb : b = A := by omega
        subst eb
        obtain ⟨iv, K⟩ := all b hck
        rcases hc with ⟨e1, e2⟩ | ⟨e1, e2, e3⟩
        · subst e1; subst e2
          unfold p_M_gather_L39
          refine ⟨fun _ => ?_, fun c => absurd (by rw [le_nn (by omega) (by omega)]; omega) c⟩
          have := hG g' ⟨nr, nt, by rw [SC.eq sc sm]; exact iv⟩
          rw [if_pos rfl] at this
          exact this
        · refine w_mgstep iv sm hs hw (by rw [le_nn (by omega) (by omega)]; omega) (fun _ => ?_) (fun z => ?_)
          · rw [gcd_kk K, eck, ← e2]
            rw [hp_ne e3] at sc
            refine w_meets (SM.m iv sm) (by rw [e2]; exact c7 b) ?_
            have := hG (fm g' c) ⟨nr, nt, by rw [fm_eq sm sc]; exact iv.find (by rw [e2]; exact c7 b)⟩
            rw [if_neg e3, cd_ne e3] at this
            exact this
          · rw [gcd_kk K, eck, ← e2] at z; exact absurd z e3
      | succ m ih =>
        intro b g' hb sm sc
        obtain ⟨iv, K⟩ := all b (fun k hk => hck k (by omega))
        refine w_mgstep iv sm hs hw (by rw [le_nn (by omega) (by omega)]; omega) (fun z => ?_) (fun z => ?_)
        · rw [gcd_kk K, eck] at z; exact absurd (hck b (by omega)) z
        · rw [br_kk K, exk, eyk]
          exact ih (b + 1) _ (by omega) (pv_sm sm _ _ _) (pvM_sc sc _ _ _)
    exact key2 A 0 h11 (by omega) sm11 sc11
  refine ⟨N + 1, ?_⟩
  have key : ∀ (m a : Nat) (h' : xH), a + m = N → (∀ k, k < a → ck k = 0) → SC (gv s yk xk v0 a) h' → Sm KC h h' → p_T_gather_L40 (11, 0) (nI s) y (nI wn) z (nI N) (fun h => F (nI N) h) F (m + 1) (nI a) h' := by
    intro m
    induction m with
    | zero =>
      intro a h' ha hck sc sC
      unfold p_T_gather_L40
      refine ⟨fun _ => ?_, fun c => absurd (by rw [le_nn (by omega) (by omega)]; omega) c⟩
      exact fin a 0 (by omega) hck (Or.inl ⟨by omega, rfl⟩) h' sc sC
    | succ m ih =>
      intro a h' ha hck sc sC
      obtain ⟨iv, K⟩ := all a hck
      refine w_gstep iv sc hs hw (by rw [le_nn (by omega) (by omega)]; omega) (fun z => ?_) (fun z => ?_)
      · rw [gcd_kk K, eck] at z ⊢
        have := fin a (ck a) (by omega) hck (Or.inr ⟨by omega, rfl, z⟩) (hp h' (ck a)) (hp_sc sc _) (sC.tr (hp_sm h' _))
        rw [if_neg z] at this
        exact this
      · rw [gcd_kk K, eck] at z
        rw [br_kk K, exk, eyk]
        exact ih (a + 1) _ (by omega) (fun k hk => if e : k = a then by rw [e]; exact z else hck k (by omega)) (pv_sc sc _ _ _) (sC.tr (pvC_kc _ _ _ _))
  exact key N 0 h10 (by omega) (fun k hk => by omega) sc0 sC0
end Gather2
