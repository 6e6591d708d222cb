section Upd
variable {qq : Prop} {L : Nat} {xs : Nat → Int32} {nr nt : Nat} {h : xH}
/-- whole kinds and single places -/
def KK (l : List Nat) (l2 : List (xN × Nat)) : xN → Nat → Prop := fun n j => n.1 ∈ l ∨ (n, j) ∈ l2
def nrd (l : List Nat) (l2 : List (xN × Nat)) (rd : xN → Nat → Bool) : Prop := (∀ k ∈ l, ∀ i j, rd (k, i) j = false) ∧ l2.all (fun q => !rd q.1 q.2) = true
theorem KK_rd {l : List Nat} {l2 : List (xN × Nat)} {rd : xN → Nat → Bool} (z : nrd l l2 rd) : ∀ n j, KK l l2 n j → rd n j = false := by
  intro n j k
  rcases k with k | k
  · exact z.1 n.1 k n.2 j
  · exact all_rd z.2 n j k
theorem InvQ.updD {h' : xH} (l : List Nat) (l2 : List (xN × Nat)) (i : InvQ qq L xs nr nt h) (s : Sm (KK l l2) h h')
    (sp : nrd l l2 rdShP ∨ ShP (hS h') (hR h') (hI h') := by
      refine Or.inl ⟨?_, rfl⟩
      repeat (first | exact List.forall_mem_nil _ | refine List.forall_mem_cons.mpr ⟨fun _ _ => rfl, ?_⟩))
    (st : nrd l l2 rdShT ∨ ShT (hS h') (hR h') (hI h') nt := by
      refine Or.inl ⟨?_, rfl⟩
      repeat (first | exact List.forall_mem_nil _ | refine List.forall_mem_cons.mpr ⟨fun _ _ => rfl, ?_⟩))
    (vs : nrd l l2 rdVS ∨ VS (hS h') (hI h') L xs := by
      refine Or.inl ⟨?_, rfl⟩
      repeat (first | exact List.forall_mem_nil _ | refine List.forall_mem_cons.mpr ⟨fun _ _ => rfl, ?_⟩))
    (vc : nrd l l2 rdVC ∨ VC (hI h') nr nt := by
      refine Or.inl ⟨?_, rfl⟩
      repeat (first | exact List.forall_mem_nil _ | refine List.forall_mem_cons.mpr ⟨fun _ _ => rfl, ?_⟩))
    (vr : nrd l l2 rdVR ∨ VR (hI h') nr := by
      refine Or.inl ⟨?_, rfl⟩
      repeat (first | exact List.forall_mem_nil _ | refine List.forall_mem_cons.mpr ⟨fun _ _ => rfl, ?_⟩))
    (vl : nrd l l2 rdVL ∨ VL (hI h') nr := by
      refine Or.inl ⟨?_, rfl⟩
      repeat (first | exact List.forall_mem_nil _ | refine List.forall_mem_cons.mpr ⟨fun _ _ => rfl, ?_⟩))
    (vf : nrd l l2 rdVF ∨ VF (hI h') nr := by
      refine Or.inl ⟨?_, rfl⟩
      repeat (first | exact List.forall_mem_nil _ | refine List.forall_mem_cons.mpr ⟨fun _ _ => rfl, ?_⟩))
    (vp : nrd l l2 rdVP ∨ VP (hI h') nr := by
      refine Or.inl ⟨?_, rfl⟩
      repeat (first | exact List.forall_mem_nil _ | refine List.forall_mem_cons.mpr ⟨fun _ _ => rfl, ?_⟩))
    (vt : nrd l l2 rdVT ∨ VT (hI h') nt := by
      refine Or.inl ⟨?_, rfl⟩
      repeat (first | exact List.forall_mem_nil _ | refine List.forall_mem_cons.mpr ⟨fun _ _ => rfl, ?_⟩))
    (vv : nrd l l2 rdVV ∨ VV (hI h') nt := by
      refine Or.inl ⟨?_, rfl⟩
      repeat (first | exact List.forall_mem_nil _ | refine List.forall_mem_cons.mpr ⟨fun _ _ => rfl, ?_⟩))
    (vd : nrd l l2 rdVD ∨ VD (hI h') nt := by
      refine Or.inl ⟨?_, rfl⟩
      repeat (first | exact List.forall_mem_nil _ | refine List.forall_mem_cons.mpr ⟨fun _ _ => rfl, ?_⟩))
    (vm : nrd l l2 rdVM ∨ VM (hI h') nt := by
      refine Or.inl ⟨?_, rfl⟩
      repeat (first | exact List.forall_mem_nil _ | refine List.forall_mem_cons.mpr ⟨fun _ _ => rfl, ?_⟩))
    (vw : nrd l l2 rdVW ∨ VW (hI h') nt := by
      refine Or.inl ⟨?_, rfl⟩
      repeat (first | exact List.forall_mem_nil _ | refine List.forall_mem_cons.mpr ⟨fun _ _ => rfl, ?_⟩))
    (vx : nrd l l2 rdVX ∨ VX (hI h') nt := by
      refine Or.inl ⟨?_, rfl⟩
      repeat (first | exact List.forall_mem_nil _ | refine List.forall_mem_cons.mpr ⟨fun _ _ => rfl, ?_⟩))
    (vb : nrd l l2 rdVB ∨ VB (hI h') := by
      refine Or.inl ⟨?_, rfl⟩
      repeat (first | exact List.forall_mem_nil _ | refine List.forall_mem_cons.mpr ⟨fun _ _ => rfl, ?_⟩))
    (vn : nrd l l2 rdVN ∨ VN (hI h') := by
      refine Or.inl ⟨?_, rfl⟩
      repeat (first | exact List.forall_mem_nil _ | refine List.forall_mem_cons.mpr ⟨fun _ _ => rfl, ?_⟩))
    (vq : nrd l l2 rdVQ ∨ (VQw (hI h') ∧ (qq → VQ (hI h'))) := by
      refine Or.inl ⟨?_, rfl⟩
      repeat (first | exact List.forall_mem_nil _ | refine List.forall_mem_cons.mpr ⟨fun _ _ => rfl, ?_⟩))
    : InvQ qq L xs nr nt h' :=
  i.updK s (sp.imp KK_rd id) (st.imp KK_rd id) (vs.imp KK_rd id) (vc.imp KK_rd id) (vr.imp KK_rd id) (vl.imp KK_rd id) (vf.imp KK_rd id) (vp.imp KK_rd id) (vt.imp KK_rd id) (vv.imp KK_rd id) (vd.imp KK_rd id) (vm.imp KK_rd id) (vw.imp KK_rd id) (vx.imp KK_rd id) (vb.imp KK_rd id) (vn.imp KK_rd id) (vq.imp KK_rd id)
/-- the places of one drawer -/
def KD (w : Nat) : xN → Nat → Prop := fun n j => (n.1 = 9 ∧ 12 * w ≤ n.2 ∧ n.2 < 12 * w + 12) ∨ (n = (3, w) ∧ j = 1) ∨ (n = (85, 0) ∧ j = w) ∨ (n = (86, 0) ∧ j = w) ∨ (n = (87, 0) ∧ 12 * w ≤ j ∧ j < 12 * w + 12)
/-- promise 24 -/
theorem o_drawer (H : Ok L xs h) (x n : Int32) {F : Int32 → xH → Prop} (hF : Nx L xs (p_M_drawer (12, 0) x n) F) : p_T_drawer (11, 0) x n h F := by
  obtain ⟨nr, nt, i⟩ := H
  have e0 : (0 : Int32).toInt = 0 := rfl
  have e12 : (12 : Int32).toInt = 12 := rfl
  unfold p_T_drawer
  refine w_isWindow (fun c => ⟨fun z => absurd rfl z, fun _ => hF _ _ i.vs (fun G hG => ?_)⟩) (fun w hw e => ⟨fun _ => ⟨fun c12 => ⟨fun c0 => ?_, fun c0 => ⟨rfl, w_found i.x (k := 5) (by omega) (fin_find (k := 5) i (by omega) (by omega) hF (fun G g => ?_))⟩⟩, fun c12 => hF _ _ i.vs (fun G hG => ?_)⟩, fun z => absurd z (by decide)⟩)
  · unfold p_M_drawer
    exact w_mWindow (fun _ => ⟨fun z => absurd rfl z, fun _ => hG h ⟨nr, nt, i⟩⟩) (fun w hw e => absurd e (c w hw))
  · subst e
    obtain ⟨z, hz, rfl⟩ : ∃ z, z ≤ 12 ∧ n = nI z := by
      rw [ti_le, e12] at c12
      rw [ti_le, e0] at c0
      exact ⟨n.toInt.toNat, by omega, by rw [ti_eq, ti_n (by omega)]; omega⟩
    obtain ⟨r1, r2, r3, -⟩ := slipR (j := 0) i hw (by omega)
    rw [r1, r2, cl_n (by omega), r3]
    unfold p_D_open
    refine ⟨rfl, rfl, in_n (by omega) (by omega), rfl, rfl, fun h1 q1 => ⟨z + 1, ?_⟩⟩
    have s1 : Sm (KD w) h h1 := by rw [q1]; exact (Sm.rf _ h).si _ (by simp [KD])
    have fin : ∀ h2, Sm (fun n j => n.1 = 9 ∧ 12 * w ≤ n.2 ∧ n.2 < 12 * w + 12) h1 h2 → (∀ k, k < z → hI h2 (9, 12 * w + k) 1 = 0) → F (nI z) h2 := by
      intro h2 s2 f2
      have sD : Sm (KD w) h h2 := s1.tr (s2.mono (fun n j e => Or.inl e))
      have sC : Sm KC h h2 := by
        have sC1 : Sm KC h h1 := by rw [q1]; exact (Sm.rf _ h).si _ (by simp [KC])
        exact sC1.tr (s2.mono (fun n j e => by simp [KC, e.1]))
      have m : ShM (hS h2) (hR h2) := by rw [sD.2.1, sD.2.2]; exact i.m
      refine hF _ _ (i.vs.fr sC (fun n j k => k.2.2)) (fun G hG => ?_)
      unfold p_M_drawer
      refine w_mWindow (fun c => absurd rfl (c w hw)) (fun w' _ _ => ⟨fun _ => ⟨fun _ => ⟨fun _ => ?_, fun c => absurd c0 c⟩, fun c => absurd c12 c⟩, fun z => absurd z (by decide)⟩)
      rw [mR51 m, mS51 m, cl_n (by omega)]
      refine ⟨rfl, rfl, in_n (by omega) (by omega), fun h3 q3 => ?_⟩
      have m3 : ShM (hS h3) (hR h3) := by rw [q3]; exact m
      rw [mR52 m3, mS52 m3]
      refine ⟨rfl, in_n (by omega) (by omega), fun h4 q4 => ⟨13, ?_⟩⟩
      have s4 : Sm (KD w) h h4 := by rw [q4, q3]; exact (sD.si _ (by simp [KD])).si _ (by simp [KD])
      have key : ∀ (m a : Nat) (h' : xH), a + m = 12 → Sm (fun n j => n = (87, 0) ∧ 12 * w ≤ j ∧ j < 12 * w + 12) h4 h' → (∀ k, k < a → hI h' (87, 0) (12 * w + k) = 0) → p_M_drawer_L45 (12, 0) (nI w) (nI z) (fun h23 => G (nI z) h23) G (m + 1) (nI a) h' := by
        intro m
        induction m with
        | zero =>
          intro a h' ha s5 f
          unfold p_M_drawer_L45
          refine ⟨fun _ => ?_, fun c => absurd (show nI 12 ≤ nI a by rw [le_nn (by omega) (by omega)]; omega) c⟩
          have s6 : Sm (KD w) h h' := s4.tr (s5.mono (fun n j e => by simp [KD, e]))
          refine hG h' ⟨nr, nt, i.updD [9, 87] [((3, w), 1), ((85, 0), w), ((86, 0), w)] (s6.mono (fun n j e => ?_)) (vw := Or.inr fun w' hw' => ?_)⟩
          · rcases e with e | ⟨rfl, rfl⟩ | ⟨rfl, rfl⟩ | ⟨rfl, rfl⟩ | ⟨rfl, _⟩
            · exact Or.inl (by simp [e.1])
            · exact Or.inr (by simp)
            · exact Or.inr (by simp)
            · exact Or.inr (by simp)
            · exact Or.inl (by simp)
          · by_cases ew : w' = w
            · subst ew
              right
              have g85 : hI h' (85, 0) w' = 1 := by rw [s5.1 _ _ (by simp), q4, q3]; simp [hI_sI]
              have g86 : hI h' (86, 0) w' = nI z := by rw [s5.1 _ _ (by simp), q4]; simp [hI_sI]
              have g3 : hI h' (3, w') 1 = nI z := by rw [s5.1 _ _ (by simp), q4, q3, hI_sI, hI_sI, if_neg (by simp), if_neg (by simp), s2.1 _ _ (by simp), q1]; simp [hI_sI]
              refine ⟨g85, z, hz, g3, g86, fun k hk => ?_⟩
              have g87 := f k (by omega)
              have g9 : hI h' (9, 12 * w' + k) 1 = 0 := by rw [s5.1 _ _ (by simp), q4, q3, hI_sI, hI_sI, if_neg (by simp), if_neg (by simp)]; exact f2 k hk
              exact ⟨by rw [g9, g87], Or.inl g87⟩
            · have o : ∀ n j, ¬ KD w n j → hI h' n j = hI h n j := s6.1
              rw [o (85, 0) w' (by simp [KD, ew]), o (86, 0) w' (by simp [KD, ew]), o (3, w') 1 (by simp [KD, ew])]
              rcases i.vw w' hw' with c | ⟨c, n, n1, n2, n3, n4⟩
              · exact Or.inl c
              · refine Or.inr ⟨c, n, n1, n2, n3, fun k hk => SlOK_fr (s := 12 * w' + k) (fun j => o _ _ ?_) (fun j => o _ _ (by simp [KD])) (o _ _ ?_) (o _ _ (by simp [KD])) (o _ _ (by simp [KD])) (fun _ _ => o _ _ (by simp [KD])) (fun _ _ => o _ _ (by simp [KD])) (n4 k hk)⟩
                · simp [KD]; omega
                · simp [KD]; omega
        | succ m ih =>
          intro a h' ha s5 f
          unfold p_M_drawer_L45
          have m' : ShM (hS h') (hR h') := by rw [s5.2.1, s5.2.2, s4.2.1, s4.2.2]; exact i.m
          rw [mR53 m', mS53 m', ix12, cl_n (by omega)]
          refine ⟨fun c => ?_, fun _ => ⟨rfl, rfl, in_n (by omega) (by omega), fun h5 e5 v hv => ?_⟩⟩
          · have c' : nI 12 ≤ nI a := c
            rw [le_nn (by omega) (by omega)] at c'; omega
          · rw [hv, nI_1]
            refine ih (a + 1) h5 (by omega) (by rw [e5]; exact s5.si _ ⟨rfl, by omega, by omega⟩) (fun k hk => ?_)
            rw [e5, hI_sI]
            by_cases ek : k = a
            · simp [ek]
            · rw [if_neg (by simp [ek])]; exact f k (by omega)
      exact key 12 0 h4 (by omega) (Sm.rf _ h4) (fun k hk => by omega)
    have key : ∀ (m a : Nat) (h' : xH), a + m = z → Sm (fun n j => n.1 = 9 ∧ 12 * w ≤ n.2 ∧ n.2 < 12 * w + 12) h1 h' → (∀ k, k < a → hI h' (9, 12 * w + k) 1 = 0) → p_D_open_L7 (3, w) (nI z) (fun h12 => F (nI z) h12) (fun h10 => F (nI z) h10) (m + 1) (nI a) h' := by
      intro m
      induction m with
      | zero =>
        intro a h' ha s5 f
        unfold p_D_open_L7
        refine ⟨fun _ => fin h' s5 (fun k hk => f k (by omega)), fun c => absurd (by rw [le_nn (by omega) (by omega)]; omega) c⟩
      | succ m ih =>
        intro a h' ha s5 f
        unfold p_D_open_L7
        obtain ⟨-, -, -, t4, t5, t6, -, -⟩ := slipR (j := a) i hw (by omega)
        rw [s5.2.1, s5.2.2, s1.2.1, s1.2.2, t4, t5, cl_n (by omega), t6]
        unfold p_Sl_holdNothing
        refine ⟨fun c => by rw [le_nn (by omega) (by omega)] at c; omega, fun _ => ⟨rfl, rfl, in_n (by omega) (by omega), rfl, rfl, fun h5 e5 v hv => ?_⟩⟩
        rw [hv, nI_1]
        refine ih (a + 1) h5 (by omega) (by rw [e5]; exact s5.si _ ⟨rfl, by simp, by simp; omega⟩) (fun k hk => ?_)
        rw [e5, hI_sI]
        by_cases ek : k = a
        · simp [ek]
        · rw [if_neg (by simp [ek])]; exact f k (by omega)
    exact key z 0 h1 (by omega) (Sm.rf _ h1) (fun k hk => by omega)
  · unfold p_M_drawer
    exact w_mWindow (fun c => absurd e (c w hw)) (fun w' _ _ => ⟨fun _ => ⟨fun _ => ⟨fun c => absurd c c0, fun _ => ⟨rfl, g⟩⟩, fun c => absurd c12 c⟩, fun z => absurd z (by decide)⟩)
  · unfold p_M_drawer
    exact w_mWindow (fun c => absurd e (c w hw)) (fun w' _ _ => ⟨fun _ => ⟨fun c => absurd c c12, fun _ => hG h ⟨nr, nt, i⟩⟩, fun z => absurd z (by decide)⟩)
end Upd
