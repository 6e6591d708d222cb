section Place
variable {L : Nat} {xs : Nat → Int32} {nr nt : Nat} {h : xH}
theorem FinOK_fr {I I' : xN → Nat → Int32} {f n : Nat} {pos pos' : Nat → Nat} (hp : ∀ k, 1 ≤ k → k ≤ n → pos' k = pos k) (e4 : I' (4, f) 2 = I (4, f) 2) (e15 : ∀ k, I' (15, f) k = I (15, f) k) (e16 : ∀ k, I' (16, f) k = I (16, f) k) (v : FinOK I f pos n) : FinOK I' f pos' n := by
  obtain ⟨ru, a, b, c, d, e⟩ := v
  refine ⟨ru, a, by rw [e4]; exact b, c, fun k => ?_, fun i k hk => ?_⟩
  · rw [d k]
    constructor
    · rintro ⟨x, y, z⟩; exact ⟨x, y, by rw [hp k x y]; exact z⟩
    · rintro ⟨x, y, z⟩; exact ⟨x, y, by rw [hp k x y] at z; exact z⟩
  · have := (d k).mp (List.mem_of_getElem? hk)
    rw [e15, e16, hp k this.1 this.2.1]
    exact e i k hk
theorem w_mplace (d : Md (hS h) (hR h) nr nt (hI h)) {j : Nat} (hj : j < nr) (h12 : nr ≤ 12) {n : Nat} (e : hI h (36, 0) j = nI n) (hn : n ≤ 12) {x v : Int32} {Q : Int32 → xH → Prop} (no : (∀ k, 1 ≤ k → k ≤ n → x ≠ nI k) ∨ ¬ (0 ≤ v.toInt ∧ v.toInt ≤ 12) → Q (-3) h) (yes : ∀ k, 1 ≤ k → k ≤ n → x = nI k → 0 ≤ v.toInt ∧ v.toInt ≤ 12 → (¬ hI h (38, 0) (13 * j + k) = 0 → Q (-5) h) ∧ (hI h (38, 0) (13 * j + k) = 0 → (hI h (35, 0) j = 1 → Q (hI h (39, 0) (13 * j + k)) (sI h (39, 0) (13 * j + k) v)) ∧ (¬ hI h (35, 0) j = 1 → Q (-6) h))) : p_M_place (12, 0) (nI j) x v h Q := by
  unfold p_M_place
  refine ⟨rfl, w_isRace d (fun c => absurd rfl (c j hj)) (fun j' _ _ => ⟨fun _ => w_isRunner d hj e hn (fun c => ⟨fun _ => no (Or.inl c), fun z => absurd rfl z⟩) (fun k k1 k2 ek => ⟨fun z => absurd z (by decide), fun _ => w_in (fun c => ⟨fun z => absurd rfl z, fun _ => no (Or.inr c)⟩) (fun c => ⟨fun _ => ?_, fun z => absurd z (by decide)⟩)⟩), fun z => absurd z (by decide)⟩)⟩
  subst ek
  have y := yes k k1 k2 rfl c
  rw [mR4 d.1, mS4 d.1, mR1 d.1, mS1 d.1, mR5 d.1, mS5 d.1, ix13, cl_n (by omega), cl_n (by omega)]
  exact ⟨rfl, in_n (by omega) (by omega), fun c2 => ⟨rfl, in_n (by omega) (by omega), fun c3 => ⟨rfl, in_n (by omega) (by omega), fun v2 hv => ⟨in_n (by omega) (by omega), fun h2 q2 => by rw [hv, q2]; exact (y.2 c2).1 c3⟩⟩, fun c3 => (y.2 c2).2 c3⟩, fun c2 => y.1 c2⟩
/-- promise 8 -/
theorem o_place (H : Ok L xs h) (r x v : Int32) {F : Int32 → xH → Prop} (hF : Nx L xs (p_M_place (12, 0) r x v) F) : p_T_place (11, 0) r x v h F := by
  obtain ⟨nr, nt, i⟩ := H
  have hnr := i.vc.1
  have e0 : (0 : Int32).toInt = 0 := rfl
  have e12 : (12 : Int32).toInt = 12 := rfl
  unfold p_T_place
  refine ⟨rfl, w_findRace i (fun hno => ?_) (fun j hj e => ?_)⟩
  · refine ⟨fun _ => ?_, fun z => absurd rfl z⟩
    unfold p_T_place_j25 p_T_refuseRunner
    refine ⟨fun z => absurd rfl z, fun _ => ⟨fun _ => hF _ _ i.vs (fun G hG => ?_), fun z => absurd rfl z⟩⟩
    unfold p_M_place
    exact ⟨rfl, w_isRace i.md (fun _ => ⟨fun z => absurd rfl z, fun _ => hG h ⟨nr, nt, i⟩⟩) (fun j hj e => absurd e (hno j hj))⟩
  · subst e
    obtain ⟨n, u, a1, a2, a3, a4, a5, a6, a7, a8⟩ := VR_run i.vr hj
    have vr := i.vr.1 j hj
    have sr := i.sr.1 j hj
    have m3 : ¬ (0 ≤ v.toInt ∧ v.toInt ≤ 12) → F (-3) h := fun c => hF _ _ i.vs (fun G hG => w_mplace i.md hj hnr a5 a2 (fun _ => hG h ⟨nr, nt, i⟩) (fun k k1 k2 e c2 => absurd c2 c))
    refine ⟨fun z => absurd z (nz 5 j), fun _ => ⟨fun c => m3 (by rw [ti_lt] at c; omega), fun c => ⟨fun c2 => ?_, fun c2 => m3 (by rw [ti_le] at c2; omega)⟩⟩⟩
    have cv : 0 ≤ v.toInt ∧ v.toInt ≤ 12 := by rw [ti_le] at c2; rw [ti_lt] at c; omega
    unfold p_T_place_j25
    refine w_refuseRunner i hj a4 a2 (fun c => ⟨fun z => absurd z (nz 5 j), fun _ => ⟨fun z => absurd z (by decide), fun _ => hF _ _ i.vs (fun G hG => ?_)⟩⟩) (fun k k1 k2 e c => ⟨fun z => absurd z (nz 5 j), fun _ => ⟨fun z => absurd z (by decide), fun _ => hF _ _ i.vs (fun G hG => ?_)⟩⟩) (fun k k1 k2 e c c2 => ⟨fun z => absurd z (nz 5 j), fun _ => ⟨fun z => absurd z (by decide), fun _ => hF _ _ i.vs (fun G hG => ?_)⟩⟩) (fun k k1 k2 e c c2 => ⟨fun z => absurd z (nz 5 j), fun _ => ⟨fun _ => ?_, fun z => absurd rfl z⟩⟩)
    · exact w_mplace i.md hj hnr a5 a2 (fun _ => hG h ⟨nr, nt, i⟩) (fun k k1 k2 e c2 => absurd e (c k k1 k2))
    · refine w_mplace i.md hj hnr a5 a2 (fun z => ?_) (fun k' k1' k2' e' c3 => ⟨fun _ => hG h ⟨nr, nt, i⟩, fun c4 => ?_⟩)
      · exact z.elim (fun z => absurd e (z k k1 k2)) (fun z => absurd cv z)
      · rw [e, nI_inj (by omega) (by omega)] at e'
        rw [← e', c] at c4
        exact absurd c4 (by decide)
    · refine w_mplace i.md hj hnr a5 a2 (fun z => ?_) (fun k' k1' k2' e' c3 => ⟨fun c4 => ?_, fun c4 => ⟨fun c5 => absurd c5 c2, fun _ => hG h ⟨nr, nt, i⟩⟩⟩)
      · exact z.elim (fun z => absurd e (z k k1 k2)) (fun z => absurd cv z)
      · rw [e, nI_inj (by omega) (by omega)] at e'
        rw [← e', c] at c4
        exact absurd rfl c4
    · subst e
      rw [sr.2.2.1, sr.2.2.2.2.2.2.2.2.1, cl_n (by omega)]
      refine ⟨rfl, rfl, in_n (by omega) (by omega), fun v1 hv => ⟨in_n (by omega) (by omega), fun h1 q1 => ?_⟩⟩
      have sC : Sm KC h h1 := by rw [q1]; exact (Sm.rf _ h).si _ (by simp [KC])
      have s1 : Sm (KL [((21, j), k), ((39, 0), 13 * j + k)]) h h1 := by rw [q1]; exact (Sm.rf _ h).si _ (by simp [KL])
      have d := i.md.fr sC
      refine hF _ _ (i.vs.fr sC (fun n j k => k.2.2)) (fun G hG => ?_)
      refine w_mplace d hj hnr (by rw [sC.1 _ _ (by simp [KC])]; exact a5) a2 (fun z => ?_) (fun k' k1' k2' e' c3 => ?_)
      · exact z.elim (fun z => absurd rfl (z k k1 k2)) (fun z => absurd cv z)
      · rw [nI_inj (by omega) (by omega)] at e'
        subst e'
        rw [sC.1 _ _ (by simp [KC]), sC.1 _ _ (by simp [KC]), sC.1 _ _ (by simp [KC])]
        refine ⟨fun c4 => absurd c c4, fun _ => ⟨fun _ => ?_, fun c5 => absurd c2 c5⟩⟩
        rw [← (vr.2.2.2 k (by omega)).2.2.1, ← hv]
        have s2 : Sm (KL [((21, j), k), ((39, 0), 13 * j + k)]) h (sI h1 (39, 0) (13 * j + k) v) := s1.si _ (by simp [KL])
        have w21 : hI (sI h1 (39, 0) (13 * j + k) v) (21, j) k = v := by rw [hI_sI, if_neg (by simp), q1, hI_sI]; simp
        have w39 : hI (sI h1 (39, 0) (13 * j + k) v) (39, 0) (13 * j + k) = v := by rw [hI_sI]; simp
        generalize sI h1 (39, 0) (13 * j + k) v = h2 at s2 w21 w39 ⊢
        have o38 : ∀ q, hI h2 (38, 0) q = hI h (38, 0) q := fun q => s2.1 _ _ (by simp [KL])
        have o39 : ∀ q, q ≠ 13 * j + k → hI h2 (39, 0) q = hI h (39, 0) q := fun q hq => s2.1 _ _ (by simp [KL, hq])
        refine hG _ ⟨nr, nt, i.updL s2 (vr := Or.inr ⟨fun r hr => ?_, fun q hq => ?_⟩) (vf := Or.inr fun r hr c6 => ?_)⟩
        · have vr' := i.vr.1 r hr
          have o6 : ∀ q, hI h2 (6, r) q = hI h (6, r) q := fun q => s2.1 _ _ (by simp [KL])
          have o20 : ∀ q, hI h2 (20, r) q = hI h (20, r) q := fun q => s2.1 _ _ (by simp [KL])
          have o35 : ∀ q, hI h2 (35, 0) q = hI h (35, 0) q := fun q => s2.1 _ _ (by simp [KL])
          simp only [o38, o6, o20, o35, s2.1 (36, 0) r (by simp [KL]), s2.1 (37, 0) r (by simp [KL])]
          refine ⟨vr'.1, vr'.2.1, vr'.2.2.1, fun k' hk' => ?_⟩
          have w := vr'.2.2.2 k' hk'
          by_cases ek : r = j ∧ k' = k
          · rw [ek.1, ek.2, w21, w39]
            rw [ek.1, ek.2] at w
            exact ⟨w.1, w.2.1, rfl, v.toInt.toNat, by omega, by rw [ti_eq, ti_n (by omega)]; omega⟩
          · rw [s2.1 (21, r) k' (by simp [KL]; omega), o39 _ (by omega)]
            exact w
        · rw [o38, o39 q (by omega)]
          exact i.vr.2 q hq
        · rw [s2.1 _ _ (by simp [KL])] at c6
          have hne : r ≠ j := fun z => by rw [z, c2] at c6; exact absurd c6 (by decide)
          have f := i.vf r hr c6
          obtain ⟨n', u', b1, b2, b3, b4, b5, -⟩ := VR_run i.vr hr
          refine ⟨?_, ?_⟩
          · rw [s2.1 _ _ (by simp [KL]), s2.1 _ _ (by simp [KL])]; exact f.1
          · have f2 := f.2
            rw [s2.1 _ _ (by simp [KL])]
            rw [b5, cl_n (by omega)] at f2 ⊢
            exact FinOK_fr (fun k' k1 k2 => by unfold posM; rw [o39 _ (by omega)]) (s2.1 _ _ (by simp [KL])) (fun _ => s2.1 _ _ (by simp [KL])) (fun _ => s2.1 _ _ (by simp [KL])) f2
end Place
