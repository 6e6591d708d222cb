section Start
variable {L : Nat} {xs : Nat → Int32} {h : xH}
theorem inv_start (t : TI L xs h) : Inv L xs 0 0 (mkl (nW h (12, 0) 0) mlist) := by
  obtain ⟨X, D, ⟨s1, i1⟩, fr, R28, Z, dr, st⟩ := t
  have ml : ∀ x ∈ mlist, 35 ≤ x.1 := by decide
  have og : ∀ k m, k < 34 → k ≠ 12 → hS (mkl (nW h (12, 0) 0) mlist) (k, m) = hS h (k, m) ∧ ∀ j, hI (mkl (nW h (12, 0) 0) mlist) (k, m) j = hI h (k, m) j ∧ hR (mkl (nW h (12, 0) 0) mlist) (k, m) j = hR h (k, m) j := fun k m h1 h2 => by
    have z := mkl_o (n := (k, m)) mlist (nW h (12, 0) 0) (fun x hx e => by
      have := ml x hx
      have := congrArg Prod.fst e
      simp at this
      omega)
    have ne : ((k, m) : xN) ≠ (12, 0) := by simp [h2]
    refine ⟨z.1.trans (by rw [hS_nW, if_neg ne]), fun j => ⟨(z.2 j).1.trans (by rw [hI_nW, if_neg ne]), ((z.2 j).2 ne).trans (by rw [hR_nW, if_neg ne])⟩⟩
  have zg : ∀ k m j, 34 ≤ k ∨ k = 12 → hI (mkl (nW h (12, 0) 0) mlist) (k, m) j = 0 := fun k m j hk => by
    refine mkl_z mlist _ ?_
    rw [hI_nW]
    split
    · rfl
    · exact Z k m j (by omega) (by omega) (by omega) (by omega) (by omega) (by omega) (by omega) (by omega) (by omega)
  have zc : ∀ k m j, k < 34 → k ≠ 12 → k ≠ 1 → k ≠ 3 → k ≠ 7 → k ≠ 9 → k ≠ 14 → k ≠ 23 → k ≠ 26 → k ≠ 30 → k ≠ 31 → hI (mkl (nW h (12, 0) 0) mlist) (k, m) j = 0 := fun k m j h1 h2 a b c d e f g p q => by
    rw [((og k m h1 h2).2 j).1]; exact Z k m j a b c d e f g p q
  have SH := mlist_sh (h := nW h (12, 0) 0)
  generalize mkl (nW h (12, 0) 0) mlist = g at og zg zc SH
  have sg : ∀ k m, k < 34 → k ≠ 12 → hS g (k, m) = hS h (k, m) := fun k m h1 h2 => (og k m h1 h2).1
  have rg : ∀ k m j, k < 34 → k ≠ 12 → hR g (k, m) j = hR h (k, m) j := fun k m j h1 h2 => ((og k m h1 h2).2 j).2
  have ig : ∀ k m j, k < 34 → k ≠ 12 → hI g (k, m) j = hI h (k, m) j := fun k m j h1 h2 => ((og k m h1 h2).2 j).1
  have n40 : ∀ p, ¬ hI g (40, 0) p = 1 := fun p z => by rw [zg 40 0 p (by omega)] at z; exact absurd z (by decide)
  refine ⟨⟨SH, ?_, ⟨fun w hw => ?_, fun s hs => ?_, fun s hs => ?_⟩⟩, ⟨fun r hr => by omega, fun r _ hr => ?_⟩, fun p hp => Or.inr ?_, ⟨fun t ht => by omega, fun t _ ht => ?_⟩, ⟨?_, fun j => ?_⟩, ⟨by omega, by omega, ?_, ?_, ?_, ?_⟩, ⟨fun r hr => by omega, fun j _ => ?_⟩, ⟨fun r hr => by omega, fun r _ => ?_⟩, fun r hr => by omega, fun p hp => ⟨fun z => absurd z (n40 p), fun _ => ?_⟩, ⟨fun t ht => by omega, fun t _ => ?_⟩, fun p hp z => absurd z (n40 p), fun p hp z => absurd z (n40 p), ⟨fun _ => 0, fun _ => 0, fun _ => 0, fun p _ => ?_, fun p _ => ?_, ?_, fun _ _ _ => rfl, fun p _ _ => ⟨rfl, ?_, ?_, ?_, ?_⟩, ?_⟩, fun w hw => Or.inl ⟨?_, ?_⟩, fun s hs => Or.inl ⟨?_, ?_⟩, ⟨0, by omega, ?_, ?_, fun k hk => by omega⟩, ⟨?_, ?_, ?_, ?_, fun f hf => ?_⟩, fun p hp z => absurd z (n40 p), fun _ p hp z => absurd z (n40 p)⟩
  · unfold ShX at X ⊢
    simp only [rg 11 0 _ (by omega) (by omega), rg 2 0 _ (by omega) (by omega), rg 4 99 _ (by omega) (by omega), rg 8 0 _ (by omega) (by omega), sg 27 0 (by omega) (by omega), sg 28 0 (by omega) (by omega), sg 29 0 (by omega) (by omega), sg 30 0 (by omega) (by omega), sg 31 0 (by omega) (by omega), sg 32 0 (by omega) (by omega), sg 33 0 (by omega) (by omega), sg 13 0 (by omega) (by omega), sg 15 99 (by omega) (by omega), sg 16 99 (by omega) (by omega), sg 24 0 (by omega) (by omega), sg 25 0 (by omega) (by omega)]
    exact X
  · have d := D.1 w hw
    rw [rg 30 0 _ (by omega) (by omega), rg 3 w _ (by omega) (by omega), sg 14 w (by omega) (by omega)]
    exact ⟨d.1, d.2.1, d.2.2.1, fun t ht => by rw [rg 14 w _ (by omega) (by omega)]; exact d.2.2.2 t ht⟩
  · rw [rg 9 s _ (by omega) (by omega), sg 26 s (by omega) (by omega)]; exact D.2.1 s hs
  · rw [rg 31 0 _ (by omega) (by omega), rg 7 s _ (by omega) (by omega), sg 23 s (by omega) (by omega)]; exact D.2.2 s hs
  · rw [sg 6 r (by omega) (by omega), sg 20 r (by omega) (by omega), sg 21 r (by omega) (by omega), sg 4 r (by omega) (by omega), sg 22 r (by omega) (by omega), sg 15 r (by omega) (by omega), sg 16 r (by omega) (by omega)]
    exact ⟨fr 6 r (by omega), fr 20 r (by omega), fr 21 r (by omega), fr 4 r (by omega), fr 22 r (by omega), fr 15 r (by omega), fr 16 r (by omega)⟩
  · rw [sg 5 p (by omega) (by omega), sg 17 p (by omega) (by omega), sg 18 p (by omega) (by omega), sg 19 p (by omega) (by omega), rg 28 0 p (by omega) (by omega)]
    exact ⟨zg 40 0 p (by omega), R28 p, fr 5 p (by omega), fr 17 p (by omega), fr 18 p (by omega), fr 19 p (by omega)⟩
  · rw [sg 10 t (by omega) (by omega)]; exact fr 10 t (by omega)
  · rw [sg 1 0 (by omega) (by omega)]; exact s1
  · rw [ig 1 0 j (by omega) (by omega)]; exact i1 j
  · exact zc 11 0 10 (by omega) (by omega) (by omega) (by omega) (by omega) (by omega) (by omega) (by omega) (by omega) (by omega) (by omega)
  · exact zg 12 0 0 (by omega)
  · exact zc 11 0 11 (by omega) (by omega) (by omega) (by omega) (by omega) (by omega) (by omega) (by omega) (by omega) (by omega) (by omega)
  · exact zg 12 0 23 (by omega)
  · exact ⟨zg 38 0 j (by omega), zg 39 0 j (by omega)⟩
  · exact zg 98 0 r (by omega)
  · exact ⟨zg 43 0 p (by omega), zg 46 0 p (by omega), zg 47 0 p (by omega), zg 48 0 p (by omega), zg 49 0 p (by omega), zg 50 0 p (by omega), zg 51 0 p (by omega), zg 52 0 p (by omega), zg 53 0 p (by omega), zg 54 0 p (by omega), zg 55 0 p (by omega)⟩
  · exact zg 66 0 t (by omega)
  · exact zg 50 0 p (by omega)
  · exact zg 49 0 p (by omega)
  · exact zg 12 0 22 (by omega)
  · exact zg 51 0 p (by omega)
  · exact zg 52 0 p (by omega)
  · exact zg 53 0 p (by omega)
  · exact zg 54 0 p (by omega)
  · have a : sm (fun p => if hI g (43, 0) p = 1 then 0 else 0) 49 = 0 := (sm_congr 49 (fun p _ => by split <;> rfl)).trans (sm_0 49)
    have b := sm_0 49
    show sm (fun p => if hI g (43, 0) p = 1 then 0 else 0) 49 + 0 + sm (fun _ => 0) 49 ≤ 0
    omega
  · exact zg 85 0 w (by omega)
  · rw [ig 3 w 1 (by omega) (by omega)]; exact dr w hw
  · exact zg 92 0 s (by omega)
  · rw [ig 7 s 2 (by omega) (by omega)]; exact st s hs
  · exact zc 2 0 1 (by omega) (by omega) (by omega) (by omega) (by omega) (by omega) (by omega) (by omega) (by omega) (by omega) (by omega)
  · exact zg 12 0 66 (by omega)
  · rw [zc 11 0 12 (by omega) (by omega) (by omega) (by omega) (by omega) (by omega) (by omega) (by omega) (by omega) (by omega) (by omega), zg 12 0 22 (by omega)]
  · rw [zc 11 0 13 (by omega) (by omega) (by omega) (by omega) (by omega) (by omega) (by omega) (by omega) (by omega) (by omega) (by omega), zg 12 0 47 (by omega)]
  · rw [zc 11 0 14 (by omega) (by omega) (by omega) (by omega) (by omega) (by omega) (by omega) (by omega) (by omega) (by omega) (by omega), zg 12 0 62 (by omega)]
  · rw [zc 11 0 15 (by omega) (by omega) (by omega) (by omega) (by omega) (by omega) (by omega) (by omega) (by omega) (by omega) (by omega), zg 12 0 49 (by omega)]
  · rw [zc 33 0 f (by omega) (by omega) (by omega) (by omega) (by omega) (by omega) (by omega) (by omega) (by omega) (by omega) (by omega), zg 84 0 f (by omega)]
end Start
