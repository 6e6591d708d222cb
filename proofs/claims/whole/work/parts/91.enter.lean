section Enter
variable {qq : Prop} {L : Nat} {xs : Nat → Int32} {nr nt : Nat} {v v0 h g : xH}
/-- the entries of a settled pool, on both sides -/
def ent (v : xH) (p : Nat) (x3 x5 x6 x7 x8 : Int32) : xH :=
  sI (sI (sI (sI (sI (sI (sI (sI (sI (sI (sI (sI v (19, p) 3 x3) (19, p) 5 x5) (19, p) 6 x6) (19, p) 7 x7) (19, p) 8 x8) (19, p) 10 1) (49, 0) p x3) (51, 0) p x5) (52, 0) p x6) (53, 0) p x7) (54, 0) p x8) (43, 0) p 1
/-- dividends of the lines that are listed -/
def dvc (v : xH) (p : Nat) (ln : Nat → Nat) (d : Nat → Int32) : Nat → xH
  | 0 => v
  | i + 1 => sI (dvc v p ln d i) (18, p) (ln i) (d (ln i))
theorem dvc_i (v : xH) (p : Nat) (ln : Nat → Nat) (d : Nat → Int32) : ∀ i (n : xN) (j : Nat), (n ≠ (18, p) ∨ ∀ k, k < i → ln k ≠ j) → hI (dvc v p ln d i) n j = hI v n j
  | 0, _, _, _ => rfl
  | i + 1, n, j, hn => by
    unfold dvc
    rw [hI_sI, if_neg (fun z => hn.elim (fun y => y z.1) (fun y => y i (by omega) z.2.symm))]
    exact dvc_i v p ln d i n j (hn.imp id (fun y k hk => y k (by omega)))
theorem dvc_l (v : xH) (p : Nat) (ln : Nat → Nat) (d : Nat → Int32) : ∀ i k, k < i → hI (dvc v p ln d i) (18, p) (ln k) = d (ln k)
  | 0, _, h => by omega
  | i + 1, k, h => by
    unfold dvc
    rw [hI_sI]
    by_cases e : ln k = ln i
    · rw [if_pos ⟨rfl, e⟩, e]
    · rw [if_neg (fun z => e z.2)]
      refine dvc_l v p ln d i k ?_
      have : k ≠ i := fun q => e (by rw [q])
      omega
theorem w_enter (x : ShX (hS h) (hR h)) (s : SCx v h) {p : Nat} (r7 : hR h (5, p) 7 = (18, p)) (r8 : hR h (5, p) 8 = (19, p)) (s18 : hS h (18, p) = lls p + 1) (s19 : hS h (19, p) = 12) {n : Nat} {ln : Nat → Nat} (t : TK h n ln) (hn : n ≤ 200) (hl : ∀ i, i < n → ln i < lls p) (d : Nat → Int32) (hd : ∀ i, i < n → hI h (25, 0) i = d (ln i)) {x3 x5 x6 x7 x8 : Int32} (e4 : hI h (8, 0) 4 = x3) (e5 : hI h (8, 0) 5 = x5) (e6 : hI h (8, 0) 6 = x6) (e7 : hI h (8, 0) 7 = x7) (e8 : hI h (8, 0) 8 = x8) {Q : xH → Prop} (q : ∀ h', SCx (ent (dvc v p ln d n) p x3 x5 x6 x7 x8) h' → Sm KC h h' → Q h') : p_Se_enterInto (8, 0) (5, p) h Q := by
  have l2 := lls_le (p := p)
  unfold p_Se_enterInto
  have key : ∀ {K : xH → Prop}, (∀ h', SCx (dvc v p ln d n) h' → Sm (fun m _ => m = (18, p)) h h' → K h') → ∀ (m i : Nat) (h' : xH), i + m = n → SCx (dvc v p ln d i) h' → Sm (fun m _ => m = (18, p)) h h' → p_Se_enterInto_L2 (8, 0) (5, p) K Q (m + 1) (nI i) h' := by
    intro K k m
    induction m with
    | zero =>
      intro i h' hi S z
      have : i = n := by omega
      subst this
      unfold p_Se_enterInto_L2
      rw [z.1 _ _ (by simp), t.1, le_nn (by omega) (by omega)]
      exact ⟨rfl, fun _ => k h' S z, fun y => absurd (by omega) y⟩
    | succ m ih =>
      intro i h' hi S z
      have li := hl i (by omega)
      have R0 : hR h' (8, 0) 0 = (24, 0) := by rw [z.2.2]; exact xR_8_0_0 x
      have R1 : hR h' (8, 0) 1 = (25, 0) := by rw [z.2.2]; exact xR_8_0_1 x
      have S0 : hS h' (24, 0) = 201 := by rw [z.2.1]; exact xS_24_0 x
      have S1 : hS h' (25, 0) = 201 := by rw [z.2.1]; exact xS_25_0 x
      have R7 : hR h' (5, p) 7 = (18, p) := by rw [z.2.2]; exact r7
      have S18 : hS h' (18, p) = lls p + 1 := by rw [z.2.1]; exact s18
      have e24 : hI h' (24, 0) i = nI (ln i) := by rw [z.1 _ _ (by simp)]; exact t.2 i (by omega)
      have e25 : hI h' (25, 0) i = d (ln i) := by rw [z.1 _ _ (by simp)]; exact hd i (by omega)
      unfold p_Se_enterInto_L2
      rw [z.1 _ _ (by simp), t.1, le_nn (by omega) (by omega), R0, R1, S0, S1, R7, S18, cl_n (by omega), e24, e25, cl_n (by omega)]
      refine ⟨rfl, fun y => absurd y (by omega), fun _ => ⟨rfl, rfl, in_n (by omega) (by omega), rfl, in_n (by omega) (by omega), rfl, in_n (by omega) (by omega), fun h10 q10 y hy => ?_⟩⟩
      rw [hy, nI_1]
      refine ih (i + 1) h10 (by omega) ?_ (by rw [q10]; exact z.si _ rfl)
      rw [q10]; exact S.si _ _ _
  refine ⟨n + 1, key (fun h14 S14 z14 => ?_) n 0 h (by omega) s (Sm.rf _ h)⟩
  have R8 : ∀ h', hR h' = hR h → hR h' (5, p) 8 = (19, p) := fun h' e => by rw [e]; exact r8
  have S19 : ∀ h', hS h' = hS h → hS h' (19, p) = 12 := fun h' e => by rw [e]; exact s19
  have inn : ∀ y : Nat, y < 11 → vp_in (nI y) (12 - 1) := fun y hy => in_n (by omega) (by omega)
  have z8 : ∀ j, hI h14 (8, 0) j = hI h (8, 0) j := fun j => z14.1 _ _ (by simp)
  show _ ∧ _
  rw [R8 h14 z14.2.2, S19 h14 z14.2.1, z8, e4]
  refine ⟨rfl, rfl, rfl, inn 3 (by omega), fun h19 q19 => ?_⟩
  have a19 : hS h19 = hS h ∧ hR h19 = hR h := by rw [q19]; exact ⟨z14.2.1, z14.2.2⟩
  have y19 : ∀ j, hI h19 (8, 0) j = hI h (8, 0) j := fun j => by rw [q19, hI_sI, if_neg (by simp)]; exact z8 j
  rw [R8 h19 a19.2, S19 h19 a19.1, y19, e5]
  refine ⟨rfl, inn 5 (by omega), fun h23 q23 => ?_⟩
  have a23 : hS h23 = hS h ∧ hR h23 = hR h := by rw [q23]; exact a19
  have y23 : ∀ j, hI h23 (8, 0) j = hI h (8, 0) j := fun j => by rw [q23, hI_sI, if_neg (by simp)]; exact y19 j
  rw [R8 h23 a23.2, S19 h23 a23.1, y23, e6]
  refine ⟨rfl, inn 6 (by omega), fun h27 q27 => ?_⟩
  have a27 : hS h27 = hS h ∧ hR h27 = hR h := by rw [q27]; exact a23
  have y27 : ∀ j, hI h27 (8, 0) j = hI h (8, 0) j := fun j => by rw [q27, hI_sI, if_neg (by simp)]; exact y23 j
  rw [R8 h27 a27.2, S19 h27 a27.1, y27, e7]
  refine ⟨rfl, inn 7 (by omega), fun h31 q31 => ?_⟩
  have a31 : hS h31 = hS h ∧ hR h31 = hR h := by rw [q31]; exact a27
  have y31 : ∀ j, hI h31 (8, 0) j = hI h (8, 0) j := fun j => by rw [q31, hI_sI, if_neg (by simp)]; exact y27 j
  rw [R8 h31 a31.2, S19 h31 a31.1, y31, e8]
  refine ⟨rfl, inn 8 (by omega), fun h35 q35 => ?_⟩
  have a35 : hS h35 = hS h ∧ hR h35 = hR h := by rw [q35]; exact a31
  rw [R8 h35 a35.2, S19 h35 a35.1]
  refine ⟨rfl, inn 10 (by omega), fun h39 q39 => q h39 ?_ (by
    rw [q39, q35, q31, q27, q23, q19]
    exact ((((((z14.mono (fun n j e => by rw [e]; simp [KC])).si _ (by simp [KC])).si _ (by simp [KC])).si _ (by simp [KC])).si _ (by simp [KC])).si _ (by simp [KC])).si _ (by simp [KC]))⟩
  unfold ent
  refine SCx.om (SCx.om (SCx.om (SCx.om (SCx.om (SCx.om ?_ (Or.inl (by simp)) _ _) (Or.inl (by simp)) _ _) (Or.inl (by simp)) _ _) (Or.inl (by simp)) _ _) (Or.inl (by simp)) _ _) (Or.inl (by simp)) _ _
  rw [q39, q35, q31, q27, q23, q19]
  exact (((((S14.si _ _ _).si _ _ _).si _ _ _).si _ _ _).si _ _ _).si _ _ _
/-- tickets of a settled pool that are counted, with what each gets -/
def ct1 (p : Nat) (gt : Nat → Int32) (w : xH) (t : Nat) : xH := if hI w (58, 0) t = nI p ∧ hI w (63, 0) t = 0 then sI (sI w (66, 0) t 1) (65, 0) t (gt (tl (hI w) t)) else w
def cts (p : Nat) (gt : Nat → Int32) (v : xH) : Nat → xH
  | 0 => v
  | t + 1 => ct1 p gt (cts p gt v t) t
theorem cts_sm (p : Nat) (gt : Nat → Int32) (v : xH) : ∀ t, Sm (fun n _ => n = (66, 0) ∨ n = (65, 0)) v (cts p gt v t)
  | 0 => Sm.rf _ v
  | t + 1 => by
    unfold cts ct1
    split
    · exact ((cts_sm p gt v t).si _ (Or.inl rfl)).si _ (Or.inr rfl)
    · exact cts_sm p gt v t
end Enter
