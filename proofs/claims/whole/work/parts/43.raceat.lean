section RaceAt
variable {L : Nat} {xs : Nat → Int32} {nr nt : Nat} {h : xH}
theorem sb_n {a b : Nat} (hb : b ≤ a) : nI a - nI b = nI (a - b) := by
  have : nI (a - b) + nI b = nI a := by rw [nI_add, Nat.sub_add_cancel hb]
  rw [← this, Int32.add_sub_cancel]
theorem sb10 {x : Int32} {k : Nat} : x - (10 : Int32) = nI k ↔ x = nI (k + 10) := by
  constructor
  · intro c
    rw [← nI_add, ← c]
    exact (Int32.sub_add_cancel x 10).symm
  · rintro rfl
    exact (sb_n (a := k + 10) (b := 10) (by omega)).trans (by rw [Nat.add_sub_cancel])
theorem w_carried (i : Inv L xs nr nt h) {j : Nat} (hj : j < nr) {Q : Int32 → xH → Prop} (q : Q (hI h (50, 0) (4 * j + 3)) h) : p_T_carriedInto (11, 0) (nI j) h Q := by
  have hnr := i.vc.1
  unfold p_T_carriedInto p_T_poolNumber
  have e : (4 : Int32) * nI j + 3 = nI (4 * j + 3) := ix_n 4 j 3
  rw [e, xR_11_0_1 i.x]
  refine ⟨rfl, rfl, ?_, fun v hv => ?_⟩
  · show vp_in (nI (4 * j + 3)) (hS h (28, 0) - 1)
    rw [xS_28_0 i.x]; exact in_n (by omega) (by omega)
  rw [cl_n (by omega)] at hv
  have p := i.vp (4 * j + 3) (by omega)
  rcases i.sp (4 * j + 3) (by omega) with ⟨c, c1, c2, c3, c4, c5, c6, c7, c8, c9⟩ | ⟨c, c1, -⟩
  · rw [c1] at hv
    subst hv
    rw [c6, c9]
    have w := (p.1 c).2.2.2.2.2.2.2.2.2.1.2.2.2.2.1
    refine ⟨fun _ => ⟨rfl, rfl, in_n (j := 4) (by omega) (by omega), ?_⟩, fun z => absurd z (by simp)⟩
    show Q (hI h (19, 4 * j + 3) 4) h
    rw [w]; exact q
  · rw [c1] at hv
    subst hv
    refine ⟨fun z => absurd rfl z, fun _ => ?_⟩
    rw [(p.2 c).2.2.2.2.2.1] at q
    exact q
/-- promise 10 -/
theorem o_raceAt (H : Ok L xs h) (r x : Int32) {F : Int32 → xH → Prop} (hF : Nx L xs (p_M_raceAt (12, 0) r x) F) : p_T_raceAt (11, 0) r x h F := by
  obtain ⟨nr, nt, i⟩ := H
  have hnr := i.vc.1
  unfold p_T_raceAt
  refine ⟨rfl, w_findRace i (fun hno => ⟨fun z => absurd rfl z, fun _ => hF _ _ i.vs (fun G hG => ?_)⟩) (fun j hj e => ⟨fun _ => ?_, fun z => absurd z (nz 5 j)⟩)⟩
  · unfold p_M_raceAt
    exact ⟨rfl, w_isRace i.md (fun _ => ⟨fun z => absurd rfl z, fun _ => hG h ⟨nr, nt, i⟩⟩) (fun j hj e => absurd e (hno j hj))⟩
  · subst e
    obtain ⟨n, u, a1, a2, a3, a4, a5, a6, a7, a8⟩ := VR_run i.vr hj
    have vr := i.vr.1 j hj
    have sr := i.sr.1 j hj
    have fin : ∀ a, (∀ G : Int32 → xH → Prop, G a h → (
        (x = (0 : Int32) → G (hI h (35, 0) j) h) ∧ (x = (1 : Int32) → G (nI n) h) ∧ (x = (2 : Int32) → G (hI h (6, j) 6) h) ∧ (x = (3 : Int32) → G (nI u) h) ∧ (x = (4 : Int32) → G (hI h (50, 0) (4 * j + 3)) h) ∧ ((∀ q ∈ ([(0 : Int32), (1 : Int32), (2 : Int32), (3 : Int32), (4 : Int32)] : List Int32), x ≠ q) → ((∀ k, 1 ≤ k → k ≤ n → x ≠ nI (k + 10)) → G (-3) h) ∧ ∀ k, 1 ≤ k → k ≤ n → x = nI (k + 10) → (hI h (38, 0) (13 * j + k) = 0 → G (hI h (39, 0) (13 * j + k)) h) ∧ (¬ hI h (38, 0) (13 * j + k) = 0 → G (-1) h)))) → F a h := by
      intro a ha
      refine hF _ _ i.vs (fun G hG => ?_)
      have g := ha G (hG h ⟨nr, nt, i⟩)
      unfold p_M_raceAt
      refine ⟨rfl, w_isRace i.md (fun c => absurd rfl (c j hj)) (fun j' _ _ => ⟨fun _ => ?_, fun z => absurd z (by decide)⟩)⟩
      have e43 : (4 : Int32) * nI j + 3 = nI (4 * j + 3) := ix_n 4 j 3
      rw [mR1 i.m, mS1 i.m, mR2 i.m, mS2 i.m, mR3 i.m, mS3 i.m, mR16 i.m, mS16 i.m, e43, cl_n (by omega), cl_n (by omega), a5, a7]
      refine ⟨fun c => ⟨rfl, in_n (by omega) (by omega), g.1 c⟩, fun c => ⟨rfl, in_n (by omega) (by omega), g.2.1 c⟩, fun c => w_running i.m (by omega) a5 a2 (by rw [← a8]; exact g.2.2.1 c), fun c => ⟨rfl, in_n (by omega) (by omega), g.2.2.2.1 c⟩, fun c => ⟨rfl, in_n (by omega) (by omega), g.2.2.2.2.1 c⟩, fun c => ⟨rfl, in_n (by omega) (by omega), ?_⟩⟩
      have g6 := g.2.2.2.2.2 c
      have e10 : ((10 : Int32) + nI n).toInt = 10 + n := by
        have : (10 : Int32) + nI n = nI (10 + n) := nI_add 10 n
        rw [this, ti_n (by omega)]; omega
      have e11 : (11 : Int32).toInt = 11 := rfl
      refine w_in (fun c2 => ⟨fun z => absurd rfl z, fun _ => g6.1 (fun k k1 k2 e => c2 ?_)⟩) (fun c2 => ⟨fun _ v hv => ?_, fun z => absurd z (by decide)⟩)
      · rw [e, e10, e11, ti_n (by omega)]; omega
      · rw [e10, e11] at c2
        obtain ⟨k, k1, k2, rfl⟩ : ∃ k, 1 ≤ k ∧ k ≤ n ∧ x = nI (k + 10) := ⟨x.toInt.toNat - 10, by omega, by omega, by rw [ti_eq, ti_n (by omega)]; omega⟩
        have ev : v = nI (13 * j + k) := by
          rw [hv, ix13]
          exact (sb_n (a := 13 * j + (k + 10)) (b := 10) (by omega)).trans (by congr 1)
        subst ev
        rw [mR4 i.m, mS4 i.m, mR5 i.m, mS5 i.m, cl_n (by omega)]
        have g7 := g6.2 k k1 k2 rfl
        exact ⟨rfl, in_n (by omega) (by omega), fun c => ⟨rfl, in_n (by omega) (by omega), g7.1 c⟩, fun c => g7.2 c⟩
    have d : ∀ (p q : Int32), x = p → p ≠ q → ∀ {P : Prop}, x = q → P := fun p q e n P e' => absurd (e.symm.trans e') n
    refine ⟨fun c => ⟨rfl, fin _ fun G g => ?_⟩, fun c => ⟨rfl, fin _ fun G g => ?_⟩, fun c => ⟨rfl, fin _ fun G g => ?_⟩, fun c => ⟨rfl, fin _ fun G g => ?_⟩, fun c => w_carried i hj (fin _ fun G g => ?_), fun c => ⟨rfl, w_hasRunner rfl a4 a2 (fun c2 => ⟨fun _ => fin _ fun G g => ?_, fun z => absurd rfl z⟩) (fun k k1 k2 e => ⟨fun z => absurd z (by decide), fun _ => ?_⟩)⟩⟩
    · rw [vr.2.1] at g
      exact ⟨fun _ => g, d _ _ c (by decide), d _ _ c (by decide), d _ _ c (by decide), d _ _ c (by decide), fun z => absurd c (z _ (by simp))⟩
    · rw [a4] at g
      exact ⟨d _ _ c (by decide), fun _ => g, d _ _ c (by decide), d _ _ c (by decide), d _ _ c (by decide), fun z => absurd c (z _ (by simp))⟩
    · exact ⟨d _ _ c (by decide), d _ _ c (by decide), fun _ => g, d _ _ c (by decide), d _ _ c (by decide), fun z => absurd c (z _ (by simp))⟩
    · rw [a6] at g
      exact ⟨d _ _ c (by decide), d _ _ c (by decide), d _ _ c (by decide), fun _ => g, d _ _ c (by decide), fun z => absurd c (z _ (by simp))⟩
    · exact ⟨d _ _ c (by decide), d _ _ c (by decide), d _ _ c (by decide), d _ _ c (by decide), fun _ => g, fun z => absurd c (z _ (by simp))⟩
    · refine ⟨fun e => absurd e (c _ (by simp)), fun e => absurd e (c _ (by simp)), fun e => absurd e (c _ (by simp)), fun e => absurd e (c _ (by simp)), fun e => absurd e (c _ (by simp)), fun _ => ⟨fun _ => g, fun k k1 k2 e => absurd (sb10.mpr e) (c2 k k1 k2)⟩⟩
    · unfold p_R_standing
      have w := vr.2.2.2 k (by omega)
      rw [e, sr.2.1, sr.2.2.1, sr.2.2.2.2.2.2.2.1, sr.2.2.2.2.2.2.2.2.1, cl_n (by omega), w.1, w.2.2.1]
      have fin2 : ∀ a, ((hI h (38, 0) (13 * j + k) = 0 → a = hI h (39, 0) (13 * j + k)) ∧ (¬ hI h (38, 0) (13 * j + k) = 0 → a = -1)) → F a h := fun a ha => fin a fun G g => ⟨fun e => absurd e (c _ (by simp)), fun e => absurd e (c _ (by simp)), fun e => absurd e (c _ (by simp)), fun e => absurd e (c _ (by simp)), fun e => absurd e (c _ (by simp)), fun _ => ⟨fun z => absurd (sb10.mp e) (z k k1 k2), fun k' k1' k2' e' => by
        have ek := sb10.mpr e'
        rw [e, nI_inj (by omega) (by omega)] at ek
        subst ek
        exact ⟨fun z => by rw [← ha.1 z]; exact g, fun z => by rw [← ha.2 z]; exact g⟩⟩⟩
      exact ⟨rfl, rfl, in_n (by omega) (by omega), fun z => ⟨rfl, in_n (by omega) (by omega), fin2 _ ⟨fun _ => rfl, fun c => absurd z c⟩⟩, fun z => fin2 _ ⟨fun c => absurd c z, fun _ => rfl⟩⟩
end RaceAt
