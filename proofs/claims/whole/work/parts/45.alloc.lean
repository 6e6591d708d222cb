section Alloc
variable {L : Nat} {xs : Nat → Int32} {nr nt : Nat} {h : xH}
def rS (rd : xN → Bool) (S : xN → Nat) : xN → Nat := fun n => if rd n = true then S n else 0
def rR (rd : xN → Nat → Bool) (R : xN → Nat → xN) : xN → Nat → xN := fun n j => if rd n j = true then R n j else (0, 0)
def shS (n : xN) : Bool := match n.1 with
  | 4 => false | 5 => false | 6 => false | 10 => false | 17 => false | 18 => false | 19 => false | 20 => false | 21 => false | 22 => false
  | 15 => n.2 == 99
  | 16 => n.2 == 99
  | _ => true
def shR (n : xN) (_ : Nat) : Bool := match n.1 with
  | 5 => false | 6 => false | 10 => false | 15 => false | 16 => false | 17 => false | 18 => false | 19 => false | 20 => false | 21 => false | 22 => false | 27 => false | 28 => false | 29 => false
  | 4 => n.2 == 99
  | _ => true
theorem Sh_rs (S : xN → Nat) (R : xN → Nat → xN) : Sh (rS shS S) (rR shR R) = Sh S R := rfl
def spS (n : xN) : Bool := match n.1 with
  | 5 => true | 17 => true | 18 => true | 19 => true | _ => false
def spR (n : xN) (_ : Nat) : Bool := match n.1 with
  | 5 => true | 28 => true | _ => false
theorem ShP_rs3 (S : xN → Nat) (R : xN → Nat → xN) (I : xN → Nat → Int32) : ShP (rS spS S) (rR spR R) (rs rdShP I) = ShP S R I := rfl
def stS (n : xN) : Bool := match n.1 with
  | 10 => true | _ => false
def stR (n : xN) (_ : Nat) : Bool := match n.1 with
  | 10 => true | 29 => true | _ => false
theorem ShT_rs3 (S : xN → Nat) (R : xN → Nat → xN) (I : xN → Nat → Int32) : ShT (rS stS S) (rR stR R) (rs rdShT I) nt = ShT S R I nt := rfl
def srS (n : xN) : Bool := match n.1 with
  | 6 => true | 20 => true | 21 => true | 4 => true | 22 => true | 15 => true | 16 => true | _ => false
def srR (n : xN) (_ : Nat) : Bool := match n.1 with
  | 27 => true | 6 => true | 4 => true | _ => false
theorem ShR_rs (S : xN → Nat) (R : xN → Nat → xN) : ShR (rS srS S) (rR srR R) nr = ShR S R nr := rfl
theorem rS_eq {a : xN → Bool} {S S' : xN → Nat} (e : ∀ n, a n = true → S' n = S n) : rS a S' = rS a S := by
  funext n
  unfold rS
  split
  · rename_i hr; exact e n hr
  · rfl
theorem rR_eq {a : xN → Nat → Bool} {R R' : xN → Nat → xN} (e : ∀ n j, a n j = true → R' n j = R n j) : rR a R' = rR a R := by
  funext n j
  unfold rR
  split
  · rename_i hr; exact e n j hr
  · rfl
theorem fr3 {C : (xN → Nat) → (xN → Nat → xN) → (xN → Nat → Int32) → Prop} {a : xN → Bool} {b c : xN → Nat → Bool} (hC : ∀ S R I, C (rS a S) (rR b R) (rs c I) = C S R I) {S S' : xN → Nat} {R R' : xN → Nat → xN} {I I' : xN → Nat → Int32} (eS : ∀ n, a n = true → S' n = S n) (eR : ∀ n j, b n j = true → R' n j = R n j) (eI : ∀ n j, c n j = true → I' n j = I n j) (H : C S R I) : C S' R' I' := by
  rw [← hC, rS_eq eS, rR_eq eR, rs_eq eI, hC]; exact H
theorem fr2 {C : (xN → Nat) → (xN → Nat → xN) → Prop} {a : xN → Bool} {b : xN → Nat → Bool} (hC : ∀ S R, C (rS a S) (rR b R) = C S R) {S S' : xN → Nat} {R R' : xN → Nat → xN} (eS : ∀ n, a n = true → S' n = S n) (eR : ∀ n j, b n j = true → R' n j = R n j) (H : C S R) : C S' R' := by
  rw [← hC, rS_eq eS, rR_eq eR, hC]; exact H
theorem fr1 {C : (xN → Nat → Int32) → Prop} {c : xN → Nat → Bool} (hC : ∀ I, C (rs c I) = C I) {I I' : xN → Nat → Int32} (eI : ∀ n j, c n j = true → I' n j = I n j) (H : C I) : C I' := by
  rw [← hC, rs_eq eI, hC]; exact H
/-- the names of one race -/
def nR (r : Nat) (n : xN) : Prop := n.2 = r ∧ (n.1 = 6 ∨ n.1 = 20 ∨ n.1 = 21 ∨ n.1 = 4 ∨ n.1 = 22 ∨ n.1 = 15 ∨ n.1 = 16)
theorem nR_ne {r : Nat} {n : xN} (hn : ¬ nR r n) : n ≠ (6, r) ∧ n ≠ (20, r) ∧ n ≠ (21, r) ∧ n ≠ (4, r) ∧ n ≠ (22, r) ∧ n ≠ (15, r) ∧ n ≠ (16, r) := by
  refine ⟨?_, ?_, ?_, ?_, ?_, ?_, ?_⟩ <;> (rintro rfl; exact hn (by simp [nR]))
theorem w_Rinit {r : Nat} {x : Int32} (z20 : hS h (20, r) = 0) (z21 : hS h (21, r) = 0) (z4 : hS h (4, r) = 0) (z22 : hS h (22, r) = 0) (z15 : hS h (15, r) = 0) (z16 : hS h (16, r) = 0) {Q : xH → Prop}
    (q : ∀ h', (∀ n, ¬ nR r n → (∀ j, hI h' n j = hI h n j) ∧ (∀ j, hR h' n j = hR h n j) ∧ hS h' n = hS h n) →
      hR h' (6, r) 1 = (20, r) ∧ hR h' (6, r) 2 = (21, r) ∧ hR h' (6, r) 3 = (4, r) ∧ hR h' (6, r) 4 = (22, r) ∧ hR h' (4, r) 0 = (15, r) ∧ hR h' (4, r) 1 = (16, r) ∧ hS h' (20, r) = 14 ∧ hS h' (21, r) = 14 ∧ hS h' (22, r) = 13 ∧ hS h' (15, r) = 13 ∧ hS h' (16, r) = 13 →
      hI h' (6, r) 0 = x → hI h' (6, r) 6 = x → hI h' (6, r) 7 = 0 → hI h' (6, r) 5 = hI h (6, r) 5 → hI h' (6, r) 8 = hI h (6, r) 8 → (∀ k, hI h' (20, r) k = 0) → (∀ k, hI h' (21, r) k = 0) → Q h') : p_R_init (6, r) x h Q := by
  unfold p_R_init p_F_init
  refine ⟨Nat.le_of_ble_eq_true rfl, z20, fun h1 q1 => ⟨rfl, fun h2 q2 => ⟨?_, fun h3 q3 h4 q4 => ⟨?_, fun h5 q5 => ⟨Nat.le_of_ble_eq_true rfl, ?_, fun h6 q6 => ⟨rfl, fun h7 q7 => ⟨?_, fun h8 q8 h9 q9 h10 q10 => ⟨?_, fun h11 q11 h12 q12 h13 q13 h14 q14 h15 q15 => ?_⟩⟩⟩⟩⟩⟩⟩⟩
  · rw [q2, q1]; simp [hS_sR, hS_nW, z21]
  · rw [q4, q3, q2, q1]; simp [hS_sR, hS_nW, z4]
  · rw [q5, q4, q3, q2, q1]; simp [hS_sR, hS_nW, z15]
  · rw [q7, q6, q5, q4, q3, q2, q1]; simp [hS_sR, hS_nW, z16]
  · rw [q10, q9, q8, q7, q6, q5, q4, q3, q2, q1]; simp [hS_sR, hS_nW, z22]
  · refine q h15 (fun n hn => ?_) ?_ ?_ ?_ ?_ ?_ ?_ ?_ ?_
    · obtain ⟨n1, n2, n3, n4, n5, n6, n7⟩ := nR_ne hn
      rw [q15, q14, q13, q12, q11, q10, q9, q8, q7, q6, q5, q4, q3, q2, q1]
      simp [hS_sR, hS_nW, hS_sI, hR_sR, hR_nW, hR_sI, hI_sR, hI_nW, hI_sI, n1, n2, n3, n4, n5, n6, n7]
    all_goals
      rw [q15, q14, q13, q12, q11, q10, q9, q8, q7, q6, q5, q4, q3, q2, q1]
      simp [hS_sR, hS_nW, hS_sI, hR_sR, hR_nW, hR_sI, hI_sR, hI_nW, hI_sI]
end Alloc
