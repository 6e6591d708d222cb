section Race
variable {L : Nat} {xs : Nat → Int32} {nr nt : Nat} {h : xH}
theorem w_findRace (i : Inv L xs nr nt h) {r : Int32} {Q : xN → xH → Prop} (no : (∀ j, j < nr → r ≠ nI j) → Q (0, 0) h) (yes : ∀ j, j < nr → r = nI j → Q (6, j) h) : p_T_findRace (11, 0) r h Q := by
  have hc := i.vc
  unfold p_T_findRace
  refine ⟨fun c => no (fun j hj e => ?_), fun c => ⟨rfl, fun c2 => ?_, fun c2 => no (fun j hj e => ?_)⟩⟩
  · rw [e, ti_lt, ti_n (by have := hc.1; omega)] at c
    have e0 : (0 : Int32).toInt = 0 := rfl
    omega
  · rw [hc.2.2.1] at c2
    obtain ⟨j, hj, rfl⟩ := arg_lt c c2 (by have := hc.1; omega)
    rw [xR_11_0_0 i.x, xS_27_0 i.x]
    refine ⟨rfl, in_n (by have := hc.1; omega) (by have := hc.1; omega), ?_⟩
    rw [cl_n (by have := hc.1; omega), (i.sr.1 j hj).1]
    exact yes j hj rfl
  · apply c2
    rw [hc.2.2.1, e, ti_lt, ti_n (by have := hc.1; omega), ti_n (by have := hc.1; omega)]
    omega
theorem w_isRace (i : Inv L xs nr nt h) {r : Int32} {Q : Int32 → xH → Prop} (no : (∀ j, j < nr → r ≠ nI j) → Q 0 h) (yes : ∀ j, j < nr → r = nI j → Q 1 h) : p_M_isRace (12, 0) r h Q := by
  have hc := i.vc
  have hn := hc.1
  have e0 : (0 : Int32).toInt = 0 := rfl
  have e1 : (nI nr - 1).toInt = (nr : Int) - 1 := by
    have := pk_sub_toInt (a := nr) (b := 1) (by omega) (by omega)
    exact this
  unfold p_M_isRace p_M_in
  rw [hc.2.2.2.1]
  refine ⟨rfl, fun c => ⟨Or.inl rfl, no (fun j hj e => ?_)⟩, fun c => ⟨fun c2 => ⟨Or.inl rfl, no (fun j hj e => ?_)⟩, fun c2 => ⟨Or.inr rfl, ?_⟩⟩⟩
  · rw [e, ti_lt, ti_n (by omega)] at c
    omega
  · rw [e, ti_lt, ti_n (by omega), e1] at c2
    omega
  · obtain ⟨j, hj, e⟩ := arg_lt (n := nr) c (by rw [ti_lt, e1] at c2; rw [ti_lt, ti_n (by omega)]; omega) (by omega)
    exact yes j hj e
end Race
