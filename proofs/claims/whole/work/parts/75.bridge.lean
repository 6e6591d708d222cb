section Bridge
variable {rn cnt cnt2 : Nat} {ru ps ru2 ps2 at1 at2 : Nat → Nat}
/-- a finish lists the runners with positions -/
def FA (cnt : Nat) (ru ps at' : Nat → Nat) : Prop := cnt ≤ 12 ∧ (∀ i, i < cnt → 1 ≤ ru i ∧ ru i ≤ 12 ∧ at' (ru i) = ps i ∧ ps i ≠ 0) ∧ (∀ i j, i < cnt → j < cnt → ru i = ru j → i = j) ∧ ∀ x, x ≤ 12 → at' x ≠ 0 → ∃ i, i < cnt ∧ ru i = x
theorem nI_m1 {o : Nat} (h : o ≤ 12) : nI o ≠ -1 := fun z => by
  have := congrArg Int32.toInt z
  rw [ti_n (by omega), show (-1 : Int32).toInt = -1 by decide] at this
  omega
theorem nx0 {i : Nat} (hc : cnt ≤ 12) (hi : i < cnt) : nx cnt ps i (-1) (-1) ↔ ∀ o, o < cnt → ps i ≤ ps o :=
  ⟨fun z o ho => z.1 o ho (nI_m1 (by omega)) (nI_m1 (by omega)), fun z => ⟨fun o ho _ _ => z o ho, nI_m1 (by omega), nI_m1 (by omega)⟩⟩
theorem nx1 {i j : Nat} (hc : cnt ≤ 12) (hi : i < cnt) (hj : j < cnt) : nx cnt ps j (nI i) (-1) ↔ j ≠ i ∧ ∀ o, o < cnt → o ≠ i → ps j ≤ ps o :=
  ⟨fun z => ⟨fun e => z.2.1 (by rw [e]), fun o ho e => z.1 o ho (fun y => e ((nI_inj (by omega) (by omega)).mp y)) (nI_m1 (by omega))⟩, fun z => ⟨fun o ho e _ => z.2 o ho (fun y => e (by rw [y])), fun y => z.1 ((nI_inj (by omega) (by omega)).mp y), nI_m1 (by omega)⟩⟩
theorem nx2 {i j q : Nat} (hc : cnt ≤ 12) (hi : i < cnt) (hj : j < cnt) (hq : q < cnt) : nx cnt ps q (nI i) (nI j) ↔ q ≠ i ∧ q ≠ j ∧ ∀ o, o < cnt → o ≠ i → o ≠ j → ps q ≤ ps o :=
  ⟨fun z => ⟨fun e => z.2.1 (by rw [e]), fun e => z.2.2 (by rw [e]), fun o ho e e2 => z.1 o ho (fun y => e ((nI_inj (by omega) (by omega)).mp y)) (fun y => e2 ((nI_inj (by omega) (by omega)).mp y))⟩, fun z => ⟨fun o ho e e2 => z.2.2 o ho (fun y => e (by rw [y])) (fun y => e2 (by rw [y])), fun y => z.1 ((nI_inj (by omega) (by omega)).mp y), fun y => z.2.1 ((nI_inj (by omega) (by omega)).mp y)⟩⟩
theorem ft1 (F : FA cnt ru ps at1) {i : Nat} (hi : i < cnt) : (∀ o, o < cnt → ps i ≤ ps o) ↔ ftP at1 (ru i) 0 0 := by
  obtain ⟨f0, f1, f2, f3⟩ := F
  have a := f1 i hi
  constructor
  · intro z
    refine ⟨by rw [a.2.2.1]; exact a.2.2.2, fun y => absurd rfl y, fun y => absurd rfl y, fun x hx _ _ _ _ y => ?_⟩
    obtain ⟨o, ho, e⟩ := f3 x (by omega) y
    have := z o ho
    have b := f1 o ho
    rw [← e]
    simp only [ne_eq, not_true_eq_false, if_false]
    omega
  · intro z o ho
    have b := f1 o ho
    by_cases e : o = i
    · rw [e]; omega
    · have := z.2.2.2 (ru o) (by omega) (by omega) (fun y => e (f2 _ _ ho hi y)) (by omega) (by omega) (by omega)
      simp only [ne_eq, not_true_eq_false, if_false] at this
      omega
theorem ft2 (F : FA cnt ru ps at1) {i j : Nat} (hi : i < cnt) (hj : j < cnt) (ij : j ≠ i) : ((∀ o, o < cnt → ps i ≤ ps o) ∧ ∀ o, o < cnt → o ≠ i → ps j ≤ ps o) ↔ ftP at1 (ru i) (ru j) 0 := by
  obtain ⟨f0, f1, f2, f3⟩ := F
  have a := f1 i hi
  have c := f1 j hj
  have b0 : ru j ≠ 0 := by omega
  constructor
  · intro z
    have zj := z.1 j hj
    refine ⟨by rw [a.2.2.1]; exact a.2.2.2, fun y => ⟨by omega, by omega⟩, fun y => absurd rfl y, fun x hx _ x1 x2 _ y => ?_⟩
    obtain ⟨o, ho, e⟩ := f3 x (by omega) y
    have := z.2 o ho (fun q => x1 (by rw [← e, q]))
    have b := f1 o ho
    rw [← e, if_neg (fun y => y rfl), if_pos b0]
    omega
  · intro z
    have zz := z.2.1 b0
    have k2 : ∀ o, o < cnt → o ≠ i → ps j ≤ ps o := fun o ho e => by
      have b := f1 o ho
      by_cases e2 : o = j
      · rw [e2]; omega
      · have := z.2.2.2 (ru o) (by omega) (by omega) (fun y => e (f2 _ _ ho hi y)) (fun y => e2 (f2 _ _ ho hj y)) (by omega) (by omega)
        rw [if_neg (fun y => y rfl), if_pos b0] at this
        omega
    refine ⟨fun o ho => ?_, k2⟩
    by_cases e : o = i
    · rw [e]; omega
    · have := k2 o ho e; omega
theorem ft3 (F : FA cnt ru ps at1) {i j q : Nat} (hi : i < cnt) (hj : j < cnt) (hq : q < cnt) (ij : j ≠ i) (qi : q ≠ i) (qj : q ≠ j) : ((∀ o, o < cnt → ps i ≤ ps o) ∧ (∀ o, o < cnt → o ≠ i → ps j ≤ ps o) ∧ ∀ o, o < cnt → o ≠ i → o ≠ j → ps q ≤ ps o) ↔ ftP at1 (ru i) (ru j) (ru q) := by
  obtain ⟨f0, f1, f2, f3⟩ := F
  have a := f1 i hi
  have c := f1 j hj
  have d := f1 q hq
  have b0 : ru j ≠ 0 := by omega
  have c0 : ru q ≠ 0 := by omega
  constructor
  · intro z
    have zj := z.1 j hj
    have zq := z.2.1 q hq qi
    refine ⟨by rw [a.2.2.1]; exact a.2.2.2, fun y => ⟨by omega, by omega⟩, fun y => ⟨by omega, by omega⟩, fun x hx _ x1 x2 x3 y => ?_⟩
    obtain ⟨o, ho, e⟩ := f3 x (by omega) y
    have := z.2.2 o ho (fun q => x1 (by rw [← e, q])) (fun q => x2 (by rw [← e, q]))
    have b := f1 o ho
    rw [← e, if_pos c0]
    omega
  · intro z
    have zz := z.2.1 b0
    have z3 := z.2.2.1 c0
    have k3 : ∀ o, o < cnt → o ≠ i → o ≠ j → ps q ≤ ps o := fun o ho e e2 => by
      have b := f1 o ho
      by_cases e3 : o = q
      · rw [e3]; omega
      · have := z.2.2.2 (ru o) (by omega) (by omega) (fun y => e (f2 _ _ ho hi y)) (fun y => e2 (f2 _ _ ho hj y)) (fun y => e3 (f2 _ _ ho hq y)) (by omega)
        rw [if_pos c0] at this
        omega
    have k2 : ∀ o, o < cnt → o ≠ i → ps j ≤ ps o := fun o ho e => by
      by_cases e2 : o = j
      · rw [e2]; omega
      · have := k3 o ho e e2; omega
    refine ⟨fun o ho => ?_, k2, k3⟩
    by_cases e : o = i
    · rw [e]; omega
    · have := k2 o ho e; omega
theorem vs_wn (F : FA cnt ru ps at1) {k : Nat} (F2 : k = 4 → FA cnt2 ru2 ps2 at2) (hk : k ≤ 4) {a b c : Nat} (t : trp k a b c) : Vs k rn cnt ru ps cnt2 ru2 ps2 (lin k a b c) ↔ wnT k rn at1 at2 a b c := by
  obtain ⟨ha, hb, hc, a1, tb, tb2, tc, tc3, tab⟩ := t
  have f0 := F.1
  have f1 := F.2.1
  rcases k5 hk with rfl | rfl | rfl | rfl | rfl
  · have b0 := tb (by omega)
    have c0 := tc (by omega)
    subst b0 c0
    unfold Vs B1
    rw [if_neg (by omega), if_neg (by omega)]
    show (∃ i, i < cnt ∧ nx cnt ps i (-1) (-1) ∧ a = ru i) ↔ ftP at1 a 0 0
    constructor
    · rintro ⟨i, hi, z, e⟩
      rw [e, ← ft1 F hi, ← nx0 f0 hi]; exact z
    · intro z
      obtain ⟨i, hi, e⟩ := F.2.2.2 a ha z.1
      exact ⟨i, hi, by rw [nx0 f0 hi, ft1 F hi, e]; exact z, e.symm⟩
  · have b0 := tb (by omega)
    have c0 := tc (by omega)
    subst b0 c0
    unfold Vs
    rw [if_pos rfl]
    show (∃ i, i < cnt ∧ ps i ≤ (if rn < 8 then 2 else 3) ∧ a = ru i) ↔ at1 a ≠ 0 ∧ at1 a ≤ (if rn < 8 then 2 else 3)
    constructor
    · rintro ⟨i, hi, z, e⟩
      have := f1 i hi
      rw [e, this.2.2.1]; exact ⟨this.2.2.2, z⟩
    · intro z
      obtain ⟨i, hi, e⟩ := F.2.2.2 a ha z.1
      have := f1 i hi
      exact ⟨i, hi, by rw [← this.2.2.1, e]; exact z.2, e.symm⟩
  · have c0 := tc (by omega)
    have ab := tab rfl
    have b1 := tb2 (by omega)
    subst c0
    unfold Vs B1 B2
    rw [if_neg (by omega), if_neg (by omega)]
    simp only [show ¬ (2 = 0) by omega, if_false, if_true]
    show (∃ i, i < cnt ∧ nx cnt ps i (-1) (-1) ∧ ∃ j, j < cnt ∧ nx cnt ps j (nI i) (-1) ∧ a * 13 + b = (if ru j ≤ ru i then ru j * 13 + ru i else ru i * 13 + ru j)) ↔ ftP at1 a b 0 ∨ ftP at1 b a 0
    constructor
    · rintro ⟨i, hi, zi, j, hj, zj, e⟩
      have ri := f1 i hi
      have rj := f1 j hj
      rw [nx0 f0 hi] at zi
      rw [nx1 f0 hi hj] at zj
      have := (ft2 F hi hj zj.1).mp ⟨zi, zj.2⟩
      split at e
      · have e1 : a = ru j := by omega
        have e2 : b = ru i := by omega
        rw [e1, e2]; exact Or.inr this
      · have e1 : a = ru i := by omega
        have e2 : b = ru j := by omega
        rw [e1, e2]; exact Or.inl this
    · rintro (z | z)
      · obtain ⟨i, hi, ei⟩ := F.2.2.2 a ha z.1
        obtain ⟨j, hj, ej⟩ := F.2.2.2 b hb (z.2.1 (by omega)).1
        have ne : j ≠ i := fun q => by rw [q] at ej; omega
        rw [← ei, ← ej] at z
        have := (ft2 F hi hj ne).mpr z
        exact ⟨i, hi, (nx0 f0 hi).mpr this.1, j, hj, (nx1 f0 hi hj).mpr ⟨ne, this.2⟩, by rw [if_neg (by omega), ei, ej]⟩
      · obtain ⟨i, hi, ei⟩ := F.2.2.2 b hb z.1
        obtain ⟨j, hj, ej⟩ := F.2.2.2 a ha (z.2.1 (by omega)).1
        have ne : j ≠ i := fun q => by rw [q] at ej; omega
        rw [← ei, ← ej] at z
        have := (ft2 F hi hj ne).mpr z
        exact ⟨i, hi, (nx0 f0 hi).mpr this.1, j, hj, (nx1 f0 hi hj).mpr ⟨ne, this.2⟩, by rw [if_pos (by omega), ei, ej]⟩
  · have tt := tc3 rfl
    have b1 := tb2 (by omega)
    unfold Vs B1 B2 B3
    rw [if_neg (by omega), if_neg (by omega)]
    simp only [show ¬ (3 = 0) by omega, show ¬ (3 = 2) by omega, if_false]
    show (∃ i, i < cnt ∧ nx cnt ps i (-1) (-1) ∧ ∃ j, j < cnt ∧ nx cnt ps j (nI i) (-1) ∧ ∃ q, q < cnt ∧ nx cnt ps q (nI i) (nI j) ∧ (a * 13 + b) * 13 + c = (ru i * 13 + ru j) * 13 + ru q) ↔ ftP at1 a b c
    constructor
    · rintro ⟨i, hi, zi, j, hj, zj, q, hq, zq, e⟩
      have ri := f1 i hi
      have rj := f1 j hj
      have rq := f1 q hq
      rw [nx0 f0 hi] at zi
      rw [nx1 f0 hi hj] at zj
      rw [nx2 f0 hi hj hq] at zq
      have := (ft3 F hi hj hq zj.1 zq.1 zq.2.1).mp ⟨zi, zj.2, zq.2.2⟩
      have e1 : a = ru i := by omega
      have e2 : b = ru j := by omega
      have e3 : c = ru q := by omega
      rw [e1, e2, e3]; exact this
    · intro z
      obtain ⟨i, hi, ei⟩ := F.2.2.2 a ha z.1
      obtain ⟨j, hj, ej⟩ := F.2.2.2 b hb (z.2.1 (by omega)).1
      obtain ⟨q, hq, eq⟩ := F.2.2.2 c hc (z.2.2.1 (by omega)).1
      have n1 : j ≠ i := fun y => by rw [y] at ej; omega
      have n2 : q ≠ i := fun y => by rw [y] at eq; omega
      have n3 : q ≠ j := fun y => by rw [y] at eq; omega
      rw [← ei, ← ej, ← eq] at z
      have := (ft3 F hi hj hq n1 n2 n3).mpr z
      exact ⟨i, hi, (nx0 f0 hi).mpr this.1, j, hj, (nx1 f0 hi hj).mpr ⟨n1, this.2.1⟩, q, hq, (nx2 f0 hi hj hq).mpr ⟨n2, n3, this.2.2⟩, by rw [ei, ej, eq]⟩
  · have c0 := tc (by omega)
    have b1 := tb2 (by omega)
    have F4 := F2 rfl
    subst c0
    unfold Vs
    rw [if_neg (by omega), if_pos rfl]
    show (∃ i j, i < cnt ∧ j < cnt2 ∧ nx cnt ps i (-1) (-1) ∧ nx cnt2 ps2 j (-1) (-1) ∧ a * 13 + b = ru i * 13 + ru2 j) ↔ ftP at1 a 0 0 ∧ ftP at2 b 0 0
    constructor
    · rintro ⟨i, j, hi, hj, zi, zj, e⟩
      have ri := f1 i hi
      have rj := F4.2.1 j hj
      rw [nx0 f0 hi] at zi
      rw [nx0 F4.1 hj] at zj
      have e1 : a = ru i := by omega
      have e2 : b = ru2 j := by omega
      rw [e1, e2]; exact ⟨(ft1 F hi).mp zi, (ft1 F4 hj).mp zj⟩
    · intro z
      obtain ⟨i, hi, ei⟩ := F.2.2.2 a ha z.1.1
      obtain ⟨j, hj, ej⟩ := F4.2.2.2 b hb z.2.1
      rw [← ei, ← ej] at z
      exact ⟨i, j, hi, hj, (nx0 f0 hi).mpr ((ft1 F hi).mpr z.1), (nx0 F4.1 hj).mpr ((ft1 F4 hj).mpr z.2), by rw [ei, ej]⟩
/-- the lines that win -/
noncomputable def Wc (k rn : Nat) (at1 at2 : Nat → Nat) (l : Nat) : Bool := @decide (∃ a b c, trp k a b c ∧ lin k a b c = l ∧ ¬ vd k rn ∧ wnT k rn at1 at2 a b c) (Classical.propDecidable _)
theorem Wc_lin {k a b c : Nat} (hk : k ≤ 4) (t : trp k a b c) : Wc k rn at1 at2 (lin k a b c) = true ↔ (¬ vd k rn ∧ wnT k rn at1 at2 a b c) := by
  unfold Wc
  refine Iff.trans (@decide_eq_true_iff _ (Classical.propDecidable _)) ?_
  constructor
  · rintro ⟨a', b', c', t', e, z⟩
    obtain ⟨e1, e2, e3⟩ := (trp_eq hk t' t).mpr e
    rw [← e1, ← e2, ← e3]; exact z
  · exact fun z => ⟨a, b, c, t, rfl, z⟩
end Bridge
