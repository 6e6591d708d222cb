section Suppose
variable {qq : Prop} {L : Nat} {xs : Nat → Int32} {nr nt : Nat} {v h g : xH}
/-- what Inv doesn't read: the settlement, the supposed finish, the model's groups -/
def KSc : xN → Nat → Prop := fun n j => n.1 ∈ [8, 24, 25, 67, 68, 70, 71, 72, 73, 74, 82] ∨ ((n.1 = 4 ∨ n.1 = 15 ∨ n.1 = 16) ∧ n.2 = 99) ∨ (n = (12, 0) ∧ (j = 35 ∨ (41 ≤ j ∧ j ≤ 46)))
theorem InvQ.scr {h' : xH} (i : InvQ qq L xs nr nt h) (s : Sm KSc h h') : InvQ qq L xs nr nt h' := by
  have hn := i.vc.1
  refine i.updD [8, 24, 25, 67, 68, 70, 71, 72, 73, 74, 82, 4, 15, 16] [((12, 0), 35), ((12, 0), 41), ((12, 0), 42), ((12, 0), 43), ((12, 0), 44), ((12, 0), 45), ((12, 0), 46)] (s.mono (fun n j e => ?_)) (vf := Or.inr (fun r hr st => ?_))
  · rcases e with e | e | e
    · exact Or.inl (List.mem_append_left [4, 15, 16] e)
    · exact Or.inl (List.mem_append_right [8, 24, 25, 67, 68, 70, 71, 72, 73, 74, 82] (by rcases e.1 with z | z | z <;> simp [z]))
    · refine Or.inr ?_
      rw [e.1]
      have : j = 35 ∨ j = 41 ∨ j = 42 ∨ j = 43 ∨ j = 44 ∨ j = 45 ∨ j = 46 := by omega
      simp [this]
  · have o : ∀ k a j, k ≠ 8 → k ≠ 24 → k ≠ 25 → ¬ (67 ≤ k ∧ k ≤ 82) → k ≠ 12 → a ≠ 99 → hI h' (k, a) j = hI h (k, a) j := fun k a j k1 k2 k3 k4 k5 a9 => s.1 _ _ (fun z => by
      rcases z with z | z | z
      · simp at z; omega
      · exact a9 z.2
      · simp at z; omega)
    have st' : hI h (35, 0) r = 2 := by rw [← o 35 0 r (by omega) (by omega) (by omega) (by omega) (by omega) (by omega)]; exact st
    obtain ⟨a, ru, b1, b2, b3, b4, b5⟩ := i.vf r hr st'
    have ep : posM (hI h') r = posM (hI h) r := funext (fun k => by unfold posM; rw [o 39 0 _ (by omega) (by omega) (by omega) (by omega) (by omega) (by omega)])
    refine ⟨?_, ru, b1, ?_, b3, fun k => ?_, fun x k e => ?_⟩
    · rw [o 4 r _ (by omega) (by omega) (by omega) (by omega) (by omega) (by omega), o 6 r _ (by omega) (by omega) (by omega) (by omega) (by omega) (by omega)]; exact a
    · rw [o 4 r _ (by omega) (by omega) (by omega) (by omega) (by omega) (by omega)]; exact b2
    · rw [o 36 0 _ (by omega) (by omega) (by omega) (by omega) (by omega) (by omega), ep]; exact b4 k
    · rw [o 15 r _ (by omega) (by omega) (by omega) (by omega) (by omega) (by omega), o 16 r _ (by omega) (by omega) (by omega) (by omega) (by omega) (by omega), ep]; exact b5 x k e
def KFi (f : Nat) : xN → Nat → Prop := fun n _ => n = (4, f) ∨ n = (15, f) ∨ n = (16, f)
theorem w_fadd {f n x y : Nat} {ru ps : Nat → Nat} (F : FiH h f n ru ps) (hn : n < 12) (hx : x ≤ 12) (hy : y ≤ 12) {Q : xH → Prop} (q : ∀ h', Sm (KFi f) h h' → hI h' (4, f) 3 = hI h (4, f) 3 → FiH h' f (n + 1) (fun i => if i = n then x else ru i) (fun i => if i = n then y else ps i) → Q h') : p_F_add (4, f) (nI x) (nI y) h Q := by
  obtain ⟨f1, f2, f3, f4, f5, f6, f7⟩ := F
  unfold p_F_add
  rw [f1, f3, f5, cl_n (by omega), show (12 : Int32) = nI 12 from rfl, le_nn (by omega) (by omega)]
  refine ⟨rfl, fun z => by omega, fun _ => ⟨rfl, in_n (by omega) (by omega), fun h5 q5 => ?_⟩⟩
  have g1 : hI h5 (4, f) 2 = nI n := by rw [q5, hI_sI, if_neg (by simp)]; exact f1
  have g4 : hR h5 (4, f) 1 = (16, f) := by rw [q5]; exact f4
  have g6 : hS h5 (16, f) = 13 := by rw [q5]; exact f6
  rw [g1, g4, g6, cl_n (by omega)]
  refine ⟨rfl, in_n (by omega) (by omega), fun h9 q9 h11 q11 => ?_⟩
  have k1 : hI h9 (4, f) 2 = nI n := by rw [q9, hI_sI, if_neg (by simp)]; exact g1
  rw [k1, nI_1] at q11
  refine q h11 ?_ ?_ ⟨?_, by omega, ?_, ?_, ?_, ?_, fun i hi => ?_⟩
  · rw [q11, q9, q5]
    exact (((Sm.rf _ h).si _ (by simp [KFi])).si _ (by simp [KFi])).si _ (by simp [KFi])
  · rw [q11, q9, q5, hI_sI, if_neg (by simp), hI_sI, if_neg (by simp), hI_sI, if_neg (by simp)]
  · rw [q11, hI_sI, if_pos ⟨rfl, rfl⟩]
  · rw [q11, q9, q5]; exact f3
  · rw [q11, q9, q5]; exact f4
  · rw [q11, q9, q5]; exact f5
  · rw [q11, q9, q5]; exact f6
  · have e1 : hI h11 (15, f) i = if i = n then nI x else hI h (15, f) i := by
      rw [q11, q9, q5, hI_sI, if_neg (by simp), hI_sI, if_neg (by simp), hI_sI]
      by_cases e : i = n
      · rw [if_pos ⟨rfl, e⟩, if_pos e]
      · rw [if_neg (fun z => e z.2), if_neg e]
    have e2 : hI h11 (16, f) i = if i = n then nI y else hI h (16, f) i := by
      rw [q11, q9, q5, hI_sI, if_neg (by simp), hI_sI]
      by_cases e : i = n
      · rw [if_pos ⟨rfl, e⟩, if_pos e]
      · rw [if_neg (fun z => e z.2), if_neg e, hI_sI, if_neg (by simp)]
    rw [e1, e2]
    by_cases e : i = n
    · simp only [if_pos e]; exact ⟨trivial, trivial, hx, hy⟩
    · simp only [if_neg e]; exact f7 i (by omega)
/-- positions as they are supposed -/
def sat (a b c x : Nat) : Nat := if x = 0 then 0 else if x = a then 1 else if x = b then 2 else if x = c then 3 else 0
theorem w_suppC (x : ShX (hS h) (hR h)) {r rn a b c : Nat} (e6 : hI h (6, r) 6 = nI rn) (a1 : 1 ≤ a) (ha : a ≤ 12) (b1 : 1 ≤ b) (hb : b ≤ 12) (hc : c ≤ 12) (ab : a ≠ b) (ac : a ≠ c) (bc : b ≠ c) {Q : xH → Prop} (q : ∀ h' cnt ru ps, Sm (KFi 99) h h' → hI h' (4, 99) 3 = nI rn → FiH h' 99 cnt ru ps → FA cnt ru ps (sat a b c) → Q h') : p_T_suppose (11, 0) (6, r) (nI a) (nI b) (nI c) h Q := by
  have X : ∀ h', Sm (KFi 99) h h' → hR h' (11, 0) 6 = (4, 99) := fun h' s => by rw [s.2.2]; exact xR_11_0_6 x
  have c0 : nI c = 0 ↔ c = 0 := nI_inj (b := 0) (by omega) (by omega)
  unfold p_T_suppose p_F_begin
  rw [xR_11_0_6 x, e6]
  refine ⟨rfl, rfl, rfl, rfl, fun h2 q2 h4 q4 => ?_⟩
  have S4 : Sm (KFi 99) h h4 := by rw [q4, q2]; exact ((Sm.rf _ h).si _ (by simp [KFi])).si _ (by simp [KFi])
  have z3 : hI h4 (4, 99) 3 = nI rn := by rw [q4, q2, hI_sI, if_neg (by simp), hI_sI, if_pos ⟨rfl, rfl⟩]
  have F0 : FiH h4 99 0 (fun _ => 0) (fun _ => 0) := ⟨by rw [q4, hI_sI, if_pos ⟨rfl, rfl⟩]; rfl, by omega, by rw [S4.2.2]; exact xR_4_99_0 x, by rw [S4.2.2]; exact xR_4_99_1 x, by rw [S4.2.1]; exact xS_15_99 x, by rw [S4.2.1]; exact xS_16_99 x, fun i hi => by omega⟩
  show _ ∧ _
  rw [X h4 S4]
  refine ⟨rfl, w_fadd (x := a) (y := 1) F0 (by omega) (by omega) (by omega) (fun h6 s6 t6 F6 => ?_)⟩
  have S6 := S4.tr s6
  show _ ∧ _
  rw [X h6 S6]
  refine ⟨rfl, w_fadd (x := b) (y := 2) F6 (by omega) (by omega) (by omega) (fun h8 s8 t8 F8 => ?_)⟩
  have S8 := S6.tr s8
  show _ ∧ _
  rw [X h8 S8, c0]
  refine ⟨fun z => q h8 _ _ _ S8 (t8.trans (t6.trans z3)) F8 ?_, fun z => ⟨rfl, w_fadd (x := c) (y := 3) F8 (by omega) (by omega) (by omega) (fun h11 s11 t11 F11 => q h11 _ _ _ (S8.tr s11) (t11.trans (t8.trans (t6.trans z3))) F11 ?_)⟩⟩
  · subst z
    refine ⟨by omega, fun i hi => ?_, fun i j hi hj e => ?_, fun y hy e => ?_⟩
    · rcases (show i = 0 ∨ i = 1 by omega) with rfl | rfl
      · simp [sat]; omega
      · simp [sat, show b ≠ 0 by omega, Ne.symm ab]; omega
    · rcases (show i = 0 ∨ i = 1 by omega) with rfl | rfl <;> rcases (show j = 0 ∨ j = 1 by omega) with rfl | rfl <;> simp at e ⊢ <;> omega
    · unfold sat at e
      by_cases y0 : y = 0
      · rw [if_pos y0] at e; exact absurd rfl e
      rw [if_neg y0] at e
      by_cases ya : y = a
      · exact ⟨0, by omega, by simp [ya]⟩
      rw [if_neg ya] at e
      by_cases yb : y = b
      · exact ⟨1, by omega, by simp [yb]⟩
      rw [if_neg yb, if_neg y0] at e; exact absurd rfl e
  · refine ⟨by omega, fun i hi => ?_, fun i j hi hj e => ?_, fun y hy e => ?_⟩
    · rcases (show i = 0 ∨ i = 1 ∨ i = 2 by omega) with rfl | rfl | rfl
      · simp [sat]; omega
      · simp [sat, show b ≠ 0 by omega, Ne.symm ab]; omega
      · simp [sat, z, Ne.symm ac, Ne.symm bc]; omega
    · rcases (show i = 0 ∨ i = 1 ∨ i = 2 by omega) with rfl | rfl | rfl <;> rcases (show j = 0 ∨ j = 1 ∨ j = 2 by omega) with rfl | rfl | rfl <;> simp at e ⊢ <;> omega
    · unfold sat at e
      by_cases y0 : y = 0
      · rw [if_pos y0] at e; exact absurd rfl e
      rw [if_neg y0] at e
      by_cases ya : y = a
      · exact ⟨0, by omega, by simp [ya]⟩
      rw [if_neg ya] at e
      by_cases yb : y = b
      · exact ⟨1, by omega, by simp [yb]⟩
      rw [if_neg yb] at e
      by_cases yc : y = c
      · exact ⟨2, by omega, by simp [yc]⟩
      rw [if_neg yc] at e; exact absurd rfl e
theorem w_suppM (m : ShM (hS g) (hR g)) {a b c : Nat} (ha : a ≤ 12) (hb : b ≤ 12) (hc : c ≤ 12) {Q : xH → Prop} (q : ∀ g', Sm (fun n _ => n = (67, 0)) g g' → AtH g' (67, 0) (sat a b c) → Q g') : p_M_suppose (12, 0) (nI a) (nI b) (nI c) g Q := by
  have key : ∀ (mm x : Nat) (g' : xH), x + mm = 13 → Sm (fun n _ => n = (67, 0)) g g' → (∀ k, k < x → hI g' (67, 0) k = nI (sat a b c k)) → p_M_suppose_L3 (12, 0) (nI a) (nI b) (nI c) (fun g' => Q g') Q (mm + 1) (nI x) g' := by
    intro mm
    induction mm with
    | zero =>
      intro x g' hx s f
      unfold p_M_suppose_L3
      rw [show (13 : Int32) = nI 13 from rfl, le_nn (by omega) (by omega)]
      refine ⟨fun _ => q g' s ⟨rfl, by rw [s.2.1]; exact mS33 m, fun k hk => ⟨f k (by omega), ?_⟩⟩, fun z => absurd (by omega) z⟩
      unfold sat
      repeat' split
      all_goals omega
    | succ mm ih =>
      intro x g' hx s f
      have e0 : nI x = 0 ↔ x = 0 := nI_inj (b := 0) (by omega) (by omega)
      have ea : nI x = nI a ↔ x = a := nI_inj (by omega) (by omega)
      have eb : nI x = nI b ↔ x = b := nI_inj (by omega) (by omega)
      have ec : nI x = nI c ↔ x = c := nI_inj (by omega) (by omega)
      have go : ∀ y : Nat, sat a b c x = y → ∀ h9, h9 = sI g' (67, 0) x (nI y) → ∀ w : Int32, w = nI x + 1 → p_M_suppose_L3 (12, 0) (nI a) (nI b) (nI c) (fun g' => Q g') Q (mm + 1) w h9 := fun y hy h9 q9 w hw => by
        rw [hw, nI_1]
        refine ih (x + 1) h9 (by omega) (by rw [q9]; exact s.si _ rfl) (fun k hk => ?_)
        rw [q9, hI_sI]
        by_cases e : k = x
        · rw [if_pos ⟨rfl, e⟩, e, hy]
        · rw [if_neg (fun z => e z.2)]; exact f k (by omega)
      have R : hR g' (12, 0) 33 = (67, 0) := by rw [s.2.2]; exact mR33 m
      have S' : hS g' (67, 0) = 14 := by rw [s.2.1]; exact mS33 m
      unfold p_M_suppose_L3
      rw [show (13 : Int32) = nI 13 from rfl, le_nn (by omega) (by omega), R, S', e0, ea, eb, ec, cl_n (by omega)]
      refine ⟨fun z => by omega, fun _ => ⟨rfl, fun n0 => ⟨fun na => ⟨fun nb => ⟨fun nc => ⟨rfl, in_n (by omega) (by omega), go 0 ?_⟩, fun nc => ⟨rfl, in_n (by omega) (by omega), go 3 ?_⟩⟩, fun nb => ⟨rfl, in_n (by omega) (by omega), go 2 ?_⟩⟩, fun na => ⟨rfl, in_n (by omega) (by omega), go 1 ?_⟩⟩, fun n0 => ⟨rfl, in_n (by omega) (by omega), go 0 ?_⟩⟩⟩
      · unfold sat; rw [if_neg n0, if_neg na, if_neg nb, if_neg nc]
      · unfold sat; rw [if_neg n0, if_neg na, if_neg nb, if_pos nc]
      · unfold sat; rw [if_neg n0, if_neg na, if_pos nb]
      · unfold sat; rw [if_neg n0, if_pos na]
      · unfold sat; rw [if_pos n0]
  unfold p_M_suppose
  exact ⟨14, key 13 0 g (by omega) (Sm.rf _ g) (fun k hk => by omega)⟩
end Suppose
