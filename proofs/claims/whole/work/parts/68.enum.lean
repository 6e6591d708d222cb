section Enum
/-- a list without repeats of the lines below M with S -/
def En (ln : Nat → Nat) (n M : Nat) (S : Nat → Prop) : Prop := (∀ i, i < n → ln i < M ∧ S (ln i)) ∧ (∀ i j, i < n → j < n → ln i = ln j → i = j) ∧ ∀ l, l < M → S l → ∃ i, i < n ∧ ln i = l
theorem En.congr {ln : Nat → Nat} {n M : Nat} {S S' : Nat → Prop} (e : En ln n M S) (h : ∀ l, l < M → (S l ↔ S' l)) : En ln n M S' :=
  ⟨fun i hi => ⟨(e.1 i hi).1, (h _ (e.1 i hi).1).mp (e.1 i hi).2⟩, e.2.1, fun l hl z => e.2.2 l hl ((h l hl).mpr z)⟩
theorem En.zero {ln : Nat → Nat} {M : Nat} {S : Nat → Prop} (h : ∀ l, l < M → ¬ S l) : En ln 0 M S := ⟨fun i hi => by omega, fun i j hi => by omega, fun l hl z => absurd z (h l hl)⟩
theorem En.last {ln : Nat → Nat} {n M : Nat} {S : Nat → Prop} (e : En ln (n + 1) M S) : En ln n M (fun l => S l ∧ l ≠ ln n) :=
  ⟨fun i hi => ⟨(e.1 i (by omega)).1, (e.1 i (by omega)).2, fun z => by have := e.2.1 i n (by omega) (by omega) z; omega⟩, fun i j hi hj z => e.2.1 i j (by omega) (by omega) z, fun l hl z => by
    obtain ⟨i, hi, ei⟩ := e.2.2 l hl z.1
    refine ⟨i, ?_, ei⟩
    have : i ≠ n := fun q => z.2 (by rw [← ei, q])
    omega⟩
theorem psm_congr {f g : Nat → Int32} : ∀ n, (∀ k, k < n → f k = g k) → psm f n = psm g n
  | 0, _ => rfl
  | n + 1, e => by unfold psm; rw [psm_congr n (fun k hk => e k (by omega)), e n (by omega)]
theorem i_acomm (a b c : Int32) : a + b + c = a + c + b := by rw [Int32.add_assoc, Int32.add_comm b c, ← Int32.add_assoc]
theorem psm_ex {f g : Nat → Int32} {i : Nat} (ho : ∀ k, k ≠ i → g k = f k) : ∀ n, i < n → psm f n + g i = psm g n + f i
  | 0, h => by omega
  | n + 1, h => by
    unfold psm
    by_cases e : n = i
    · subst e
      rw [psm_congr n (fun k hk => (ho k (by omega)).symm), i_acomm]
    · have := psm_ex ho n (by omega)
      rw [ho n e, i_acomm, this, i_acomm]
theorem psm_0 : ∀ n, psm (fun _ => 0) n = 0
  | 0 => rfl
  | n + 1 => by unfold psm; rw [psm_0 n]; rfl
theorem en_sum (f : Nat → Int32) {ln : Nat → Nat} {M : Nat} : ∀ (n : Nat) (S : Nat → Prop) [DecidablePred S], En ln n M S → psm (fun i => f (ln i)) n = psm (fun l => if S l then f l else 0) M
  | 0, S, _, e => by
    rw [psm_congr (g := fun _ => 0) M (fun l hl => if_neg (fun z => by obtain ⟨i, hi, -⟩ := e.2.2 l hl z; omega)), psm_0]; rfl
  | n + 1, S, _, e => by
    have ih := en_sum f n (fun l => S l ∧ l ≠ ln n) e.last
    have x := psm_ex (f := fun l => if S l then f l else 0) (g := fun l => if S l ∧ l ≠ ln n then f l else 0) (i := ln n) (fun k hk => by
      by_cases c : S k
      · simp [c, hk]
      · simp [c]) M (e.1 n (by omega)).1
    simp only [ne_eq, not_true_eq_false, and_false, if_false, if_pos (e.1 n (by omega)).2, Int32.add_zero] at x
    show psm (fun i => f (ln i)) n + f (ln n) = _
    rw [ih, x]
theorem en_card {ln : Nat → Nat} {M : Nat} : ∀ (n : Nat) (S : Nat → Bool), En ln n M (fun l => S l = true) → cn S M = n
  | 0, S, e => by
    have : ∀ l, l < M → S l = false := fun l hl => by
      cases c : S l with
      | false => rfl
      | true => obtain ⟨i, hi, -⟩ := e.2.2 l hl c; omega
    rw [cn_congr (g := fun _ => false) M this]
    clear this e
    induction M with
    | zero => rfl
    | succ M ih => unfold cn; rw [ih]; rfl
  | n + 1, S, e => by
    have l1 := e.last
    have ih := en_card n (fun l => S l && decide (l ≠ ln n)) (l1.congr (fun l _ => by simp))
    have := cn_drop (f := S) (g := fun l => S l && decide (l ≠ ln n)) (i := ln n) (e.1 n (by omega)).2 (by simp) (fun k hk => by simp [hk]) M (e.1 n (by omega)).1
    omega
theorem cn_mono {f g : Nat → Bool} : ∀ n, (∀ k, k < n → f k = true → g k = true) → cn f n ≤ cn g n
  | 0, _ => Nat.le_refl _
  | n + 1, e => by
    have := cn_mono n (fun k hk => e k (by omega))
    have q := e n (by omega)
    unfold cn
    cases c : f n with
    | false => simp; omega
    | true => rw [q c]; simp; omega
theorem cn_one {f g : Nat → Bool} {x : Nat} (h : ∀ k, k ≠ x → g k = f k) : ∀ n, cn g n ≤ cn f n + 1
  | 0 => by simp [cn]
  | n + 1 => by
    by_cases e : n = x
    · have := cn_congr n (fun k hk => h k (by omega))
      unfold cn
      rw [this]
      split <;> split <;> omega
    · have := cn_one h n
      unfold cn
      rw [h n e]; omega
/-- lines with a live ticket are no more than tickets -/
theorem live_le (I : xN → Nat → Int32) (p M : Nat) : ∀ nt, cn (fun l => decide (0 < lvl I nt p l)) M ≤ nt
  | 0 => by
    rw [cn_congr (g := fun _ => false) M (fun l _ => by simp [lvl, sm])]
    induction M with
    | zero => simp [cn]
    | succ M ih => unfold cn; simp; omega
  | nt + 1 => by
    have ih := live_le I p M nt
    refine Nat.le_trans (cn_one (f := fun l => decide (0 < lvl I nt p l)) (x := tl I nt) (fun l hl => ?_) M) (by omega)
    have : lvl I (nt + 1) p l = lvl I nt p l + (if I (58, 0) nt = nI p ∧ I (63, 0) nt = 0 ∧ tl I nt = l then (I (62, 0) nt).toNatClampNeg else 0) := rfl
    rw [this, if_neg (fun z => hl z.2.2.symm), Nat.add_zero]
theorem en_le {I : xN → Nat → Int32} {p nt : Nat} {ln : Nat → Nat} {n M : Nat} {S : Nat → Prop} (e : En ln n M S) (h : ∀ l, l < M → S l → 0 < lvl I nt p l) : n ≤ nt := by
  have e2 : En ln n M (fun l => decide (∃ i, i < n ∧ ln i = l) = true) := e.congr (fun l hl => by
    simp only [decide_eq_true_eq]
    exact ⟨fun z => e.2.2 l hl z, fun ⟨i, hi, ei⟩ => by rw [← ei]; exact (e.1 i hi).2⟩)
  have c := en_card n _ e2
  have m := cn_mono (f := fun l => decide (∃ i, i < n ∧ ln i = l)) (g := fun l => decide (0 < lvl I nt p l)) M (fun l hl z => by
    simp only [decide_eq_true_eq] at z ⊢
    obtain ⟨i, hi, ei⟩ := z
    rw [← ei]; exact h _ (e.1 i hi).1 (e.1 i hi).2)
  have := live_le I p M nt
  omega
theorem En.snoc {ln ln' : Nat → Nat} {n M x : Nat} {S S' : Nat → Prop} (e : En ln n M S) (hx : x < M) (nx : ¬ S x) (h : ∀ l, l < M → (S' l ↔ (S l ∨ l = x))) (e1 : ln' n = x) (e2 : ∀ i, i < n → ln' i = ln i) : En ln' (n + 1) M S' := by
  refine ⟨fun i hi => ?_, fun i j hi hj z => ?_, fun l hl z => ?_⟩
  · by_cases ei : i = n
    · rw [ei, e1]; exact ⟨hx, (h x hx).mpr (Or.inr rfl)⟩
    · rw [e2 i (by omega)]
      have := e.1 i (by omega)
      exact ⟨this.1, (h _ this.1).mpr (Or.inl this.2)⟩
  · by_cases ei : i = n
    · by_cases ej : j = n
      · omega
      · rw [ei, e1, e2 j (by omega)] at z
        have := e.1 j (by omega)
        rw [← z] at this; exact absurd this.2 nx
    · by_cases ej : j = n
      · rw [ej, e1, e2 i (by omega)] at z
        have := e.1 i (by omega)
        rw [z] at this; exact absurd this.2 nx
      · rw [e2 i (by omega), e2 j (by omega)] at z
        exact e.2.1 i j (by omega) (by omega) z
  · rcases (h l hl).mp z with z | z
    · obtain ⟨i, hi, ei⟩ := e.2.2 l hl z
      exact ⟨i, by omega, by rw [e2 i hi]; exact ei⟩
    · exact ⟨n, by omega, by rw [e1, z]⟩
end Enum
