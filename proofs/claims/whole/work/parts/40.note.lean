section Note
variable {L : Nat} {xs : Nat → Int32} {nr nt : Nat} {h : xH}
theorem sh_n : ∀ z, z < 5 → ∀ a, a < z → (16 : Int32) * ((nI z - (1 : Int32)) - nI a) = nI (16 * (z - 1 - a)) := by decide
theorem sh_4 {z a : Nat} (hz : z < 5) (ha : a < z) : 16 * (z - 1 - a) = 0 ∨ 16 * (z - 1 - a) = 16 ∨ 16 * (z - 1 - a) = 32 ∨ 16 * (z - 1 - a) = 48 := by omega
def nv (x : Int64) (z k : Nat) : Int32 := ((x >>> ((nI (16 * (z - 1 - k))).toInt64 &&& 63)) &&& (65535 : Int64)).toInt32
theorem w_holdNote {s : Nat} {x : Int64} {z : Nat} (hz : z < 5) (r7 : hR h (9, s) 0 = (26, s)) (r8 : hS h (26, s) = 9) {Q : xH → Prop} (q : ∀ h1, Sm (fun n k => n = (26, s) ∨ (n = (9, s) ∧ (k = 1 ∨ k = 3))) h h1 → hI h1 (9, s) 1 = 2 → hI h1 (9, s) 3 = nI z → (∀ k, k < z → hI h1 (26, s) k = nv x z k) → Q h1) : p_Sl_holdNote (9, s) x (nI z) h Q := by
  unfold p_Sl_holdNote
  refine ⟨rfl, fun h0 q0 h1 q1 => ⟨z + 1, ?_⟩⟩
  have s1 : Sm (fun n k => n = (26, s) ∨ (n = (9, s) ∧ (k = 1 ∨ k = 3))) h h1 := by rw [q1, q0]; exact ((Sm.rf _ h).si _ (by simp)).si _ (by simp)
  have v1 : hI h1 (9, s) 1 = 2 := by rw [q1, q0]; simp [hI_sI]
  have v3 : hI h1 (9, s) 3 = nI z := by rw [q1]; simp [hI_sI]
  have key : ∀ (m a : Nat) (h' : xH), a + m = z → Sm (fun n _ => n = (26, s)) h1 h' → (∀ k, k < a → hI h' (26, s) k = nv x z k) → p_Sl_holdNote_L13 (9, s) x (nI z) (fun h => Q h) Q (m + 1) (nI a) h' := by
    intro m
    induction m with
    | zero =>
      intro a h' ha s2 f
      unfold p_Sl_holdNote_L13
      refine ⟨fun _ => q h' (s1.tr (s2.mono (fun n k e => Or.inl e))) (by rw [s2.1 _ _ (by simp)]; exact v1) (by rw [s2.1 _ _ (by simp)]; exact v3) (fun k hk => f k (by omega)), fun c => absurd ?_ c⟩
      rw [le_nn (by omega) (by omega)]; omega
    | succ m ih =>
      intro a h' ha s2 f
      unfold p_Sl_holdNote_L13
      have e0 : hR h' (9, s) 0 = (26, s) := by rw [s2.2.2, s1.2.2]; exact r7
      have e8 : hS h' (26, s) = 9 := by rw [s2.2.1, s1.2.1]; exact r8
      rw [e0, e8, sh_n z hz a (by omega), note_bits x (sh_4 hz (by omega)), cl_n (by omega)]
      refine ⟨fun c => by rw [le_nn (by omega) (by omega)] at c; omega, fun _ => ⟨rfl, rfl, in_n (by omega) (by omega), fun h5 e5 v hv => ?_⟩⟩
      rw [hv, nI_1]
      refine ih (a + 1) h5 (by omega) (by rw [e5]; exact s2.si _ rfl) (fun k hk => ?_)
      rw [e5, hI_sI]
      by_cases ek : k = a
      · simp [ek, nv]
      · rw [if_neg (by simp [ek])]; exact f k (by omega)
  exact key z 0 h1 (by omega) (Sm.rf _ h1) (fun k hk => by omega)
/-- promise 27 -/
theorem o_note (H : Ok L xs h) (x y : Int32) (b : Int64) (n : Int32) {F : Int32 → xH → Prop} (hF : Nx L xs (p_M_note (12, 0) x y b n) F) : p_T_note (11, 0) x y b n h F := by
  obtain ⟨nr, nt, i⟩ := H
  have e1 : (1 : Int32).toInt = 1 := rfl
  have e4 : (4 : Int32).toInt = 4 := rfl
  unfold p_T_note
  refine w_isWindow (fun c => ⟨fun z => absurd rfl z, fun _ => hF _ _ i.vs (fun G hG => ?_)⟩) (fun w hw e => ⟨fun _ => ⟨fun c1 => hF _ _ i.vs (fun G hG => ?_), fun c1 => ⟨fun c4 => ⟨rfl, w_refuseSlip i (fun c => absurd e (c w hw)) (fun w2 hw2 e2 => ?_)⟩, fun c4 => hF _ _ i.vs (fun G hG => ?_)⟩⟩, fun z => absurd z (by decide)⟩)
  · unfold p_M_note
    exact w_mWindow (fun _ => ⟨fun z => absurd rfl z, fun _ => hG h ⟨nr, nt, i⟩⟩) (fun w hw e => absurd e (c w hw))
  · unfold p_M_note
    rw [ti_lt] at c1
    exact w_mWindow (fun c => absurd e (c w hw)) (fun w' _ _ => ⟨fun _ => w_in (fun _ => ⟨fun z => absurd rfl z, fun _ => hG h ⟨nr, nt, i⟩⟩) (fun c => by omega), fun z => absurd z (by decide)⟩)
  · subst e
    rw [nI_inj (by omega) (by omega)] at e2
    subst e2
    rw [ti_lt, e1] at c1
    rw [ti_le, e4] at c4
    obtain ⟨z, hz1, hz4, rfl⟩ : ∃ z, 1 ≤ z ∧ z ≤ 4 ∧ n = nI z := ⟨n.toInt.toNat, by omega, by omega, by rw [ti_eq, ti_n (by omega)]; omega⟩
    rw [ti_n (by omega)] at c1 c4
    by_cases k0 : lkS (hI h) w y = 0
    · rw [k0]
      obtain ⟨n', j, n1, n2, ey, -, -, -, sl⟩ := lkS_0 i hw k0
      subst ey
      obtain ⟨r1, r2, r3, r4, r5, r6, r7, r8⟩ := slipR (j := j) i hw (by omega)
      refine ⟨fun _ => ?_, fun z => absurd rfl z⟩
      rw [show hp h 0 = h from rfl, r1, r2, cl_n (by omega), cl_n (by omega), r3, r4, r5, r6]
      refine ⟨rfl, in_n (by omega) (by omega), rfl, rfl, in_n (by omega) (by omega), rfl, w_holdNote (by omega) r7 r8 (fun h2 s2 f1 f3 f2 => ?_)⟩
      have sC2 : Sm KC h h2 := s2.mono (fun n k e => by rcases e with e | ⟨e, -⟩ <;> rw [e] <;> simp [KC])
      have sK2 : Sm (KS (12 * w + j)) h h2 := s2.mono (fun n k e => by rcases e with e | ⟨e, -⟩ <;> rw [e] <;> simp [KS])
      have m : ShM (hS h2) (hR h2) := by rw [sK2.2.1, sK2.2.2]; exact i.m
      refine hF _ _ (i.vs.fr sC2 (fun n j k => k.2.2)) (fun G hG => ?_)
      unfold p_M_note
      refine w_mWindow (fun c => absurd rfl (c w hw)) (fun w' _ _ => ⟨fun _ => w_in (fun c => absurd ⟨by rw [ti_n (by omega), e1]; omega, by rw [ti_n (by omega), e4]; omega⟩ c) (fun _ => ⟨fun _ => ⟨rfl, w_lacks m hw (DW_eq (KC_m sC2) (dw_of i hw)) ?_⟩, fun z => absurd z (by decide)⟩), fun z => absurd z (by decide)⟩)
      rw [lkS_eq (KC_m sC2), k0, ix12]
      refine ⟨fun _ v hv => ?_, fun z => absurd (by decide) z⟩
      subst hv
      rw [mR53 m, mS53 m, cl_n (by omega)]
      refine ⟨rfl, in_n (by omega) (by omega), fun h3 q3 => ?_⟩
      have m3 : ShM (hS h3) (hR h3) := by rw [q3]; exact m
      rw [mR55 m3, mS55 m3]
      refine ⟨rfl, in_n (by omega) (by omega), fun h4 q4 => ⟨z + 1, ?_⟩⟩
      have sK4 : Sm (KS (12 * w + j)) h h4 := by rw [q4, q3]; exact (sK2.si _ (by simp [KS])).si _ (by simp [KS])
      have key : ∀ (m a : Nat) (h' : xH), a + m = z → Sm (fun n q => n = (90, 0) ∧ 4 * (12 * w + j) ≤ q ∧ q < 4 * (12 * w + j) + 4) h4 h' → (∀ k, k < a → hI h' (90, 0) (4 * (12 * w + j) + k) = nv b z k) → p_M_note_L71 (12, 0) b (nI z) (nI (12 * w + j)) (fun h29 => G (nI z) h29) G (m + 1) (nI a) h' := by
        intro m
        induction m with
        | zero =>
          intro a h' ha s1 f
          unfold p_M_note_L71
          refine ⟨fun _ => ?_, fun c => absurd (by rw [le_nn (by omega) (by omega)]; omega) c⟩
          have sK5 : Sm (KS (12 * w + j)) h h' := sK4.tr (s1.mono (fun n q e => by simp [KS, e]))
          refine hG h' ⟨nr, nt, i.updW sK5 (VW_new i sK5 ?_)⟩
          have f9 : ∀ k, hI h' (9, 12 * w + j) k = hI h2 (9, 12 * w + j) k := fun k => by
            rw [s1.1 _ _ (by simp), q4, q3, hI_sI, hI_sI, if_neg (by simp), if_neg (by simp)]
          have f26 : ∀ k, hI h' (26, 12 * w + j) k = hI h2 (26, 12 * w + j) k := fun k => by
            rw [s1.1 _ _ (by simp), q4, q3, hI_sI, hI_sI, if_neg (by simp), if_neg (by simp)]
          have f87 : hI h' (87, 0) (12 * w + j) = 2 := by rw [s1.1 _ _ (by simp), q4, q3]; simp [hI_sI]
          have f89 : hI h' (89, 0) (12 * w + j) = nI z := by rw [s1.1 _ _ (by simp), q4, q3]; simp [hI_sI]
          refine ⟨by rw [f9, f87, f1], Or.inr (Or.inr (Or.inl ⟨f87, z, by omega, by rw [f9, f3], f89, fun k hk => ?_⟩))⟩
          rw [f26 k, f2 k (by omega), f k (by omega)]
        | succ m ih =>
          intro a h' ha s1 f
          unfold p_M_note_L71
          have m' : ShM (hS h') (hR h') := by rw [s1.2.1, s1.2.2, sK4.2.1, sK4.2.2]; exact i.m
          rw [mR56 m', mS56 m', ix4, cl_n (by omega), sh_n z (by omega) a (by omega)]
          refine ⟨fun c => by rw [le_nn (by omega) (by omega)] at c; omega, fun _ => ⟨rfl, rfl, in_n (by omega) (by omega), fun h5 e5 v hv => ?_⟩⟩
          rw [hv, nI_1]
          refine ih (a + 1) h5 (by omega) (by rw [e5]; exact s1.si _ ⟨rfl, by omega, by omega⟩) (fun k hk => ?_)
          rw [e5, hI_sI]
          by_cases ek : k = a
          · simp [ek, nv]
          · rw [if_neg (by simp [ek])]; exact f k (by omega)
      exact key z 0 h4 (by omega) (Sm.rf _ h4) (fun k hk => by omega)
    · refine ⟨fun z => absurd ((cd_0 (lkS_lt _ _ _)).mp z) k0, fun _ => fin_find i k0 (lkS_lt _ _ _) hF (fun G g => ?_)⟩
      unfold p_M_note
      refine w_mWindow (fun c => absurd rfl (c w hw)) (fun w' _ _ => ⟨fun _ => w_in (fun c => absurd ⟨by rw [ti_n (by omega), e1]; omega, by rw [ti_n (by omega), e4]; omega⟩ c) (fun _ => ⟨fun _ => ⟨rfl, w_lacks (h := fd h _) i.m hw (DW_eq (KC_m (fd_sm h _)) (dw_of i hw)) ?_⟩, fun z => absurd z (by decide)⟩), fun z => absurd z (by decide)⟩)
      rw [lkS_eq (KC_m (fd_sm h _))]
      exact ⟨fun z => absurd ((nI_le0 (lkS_lt _ _ _)).mp z) k0, fun _ => g⟩
  · unfold p_M_note
    rw [ti_le] at c4
    exact w_mWindow (fun c => absurd e (c w hw)) (fun w' _ _ => ⟨fun _ => w_in (fun _ => ⟨fun z => absurd rfl z, fun _ => hG h ⟨nr, nt, i⟩⟩) (fun c => by omega), fun z => absurd z (by decide)⟩)
end Note
