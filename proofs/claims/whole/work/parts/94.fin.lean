section Fin
variable {qq : Prop} {L : Nat} {xs : Nat → Int32} {nr nt : Nat} {v v0 h g : xH}
/-- how many runners a race was told -/
def nRn (v : xH) (r : Nat) : Nat := (hI v (36, 0) r).toNatClampNeg
theorem fin_of (i : InvQ qq L xs nr nt v) {r : Nat} (hr : r < nr) (st : hI v (35, 0) r = 2) : ∃ cnt ru ps, FiH v r cnt ru ps ∧ FA cnt ru ps (atP (posM (hI v) r) (nRn v r)) ∧ hI v (4, r) 3 = nI (rnOf v r) := by
  have sr := i.sr.1 r hr
  have n12 : nRn v r ≤ 12 := rn12 i hr
  obtain ⟨e3, l, l12, e2, pw, mem, cells⟩ := i.vf r hr st
  have gm : ∀ j, j < l.length → l.getD j 0 ∈ l := fun j hj => by rw [gd_lt hj]; exact List.getElem_mem hj
  have gs : ∀ j, j < l.length → l[j]? = some (l.getD j 0) := fun j hj => by rw [gd_lt hj]; simp [hj]
  refine ⟨l.length, fun j => l.getD j 0, fun j => posM (hI v) r (l.getD j 0), ⟨e2, l12, sr.2.2.2.2.2.1, sr.2.2.2.2.2.2.1, sr.2.2.2.2.2.2.2.2.2.2.1, sr.2.2.2.2.2.2.2.2.2.2.2, fun j hj => ?_⟩, ⟨l12, fun j hj => ?_, fun a b ha hb e => ?_, fun x hx z => ?_⟩, by rw [e3]; exact (rn_of i hr).1⟩
  · have c := cells j _ (gs j hj)
    have m := (mem _).mp (gm j hj)
    have le : l.getD j 0 ≤ 12 := Nat.le_trans m.2.1 n12
    exact ⟨c.1, c.2, le, (pos_n i hr (k := l.getD j 0) (by omega)).2⟩
  · have m := (mem _).mp (gm j hj)
    refine ⟨m.1, Nat.le_trans m.2.1 n12, if_pos ⟨m.1, m.2.1⟩, by have := m.2.2; show posM _ _ _ ≠ 0; omega⟩
  · rw [List.pairwise_iff_getElem] at pw
    replace e : l[a] = l[b] := by rw [← gd_lt ha, ← gd_lt hb]; exact e
    rcases Nat.lt_trichotomy a b with c | c | c
    · have := pw a b ha hb c; omega
    · exact c
    · have := pw b a hb ha c; omega
  · unfold atP at z
    by_cases c : 1 ≤ x ∧ x ≤ nRn v r
    · rw [if_pos c] at z
      obtain ⟨j, hj, e⟩ := List.getElem_of_mem ((mem x).mpr ⟨c.1, c.2, by omega⟩)
      exact ⟨j, hj, by show l.getD j 0 = x; rw [gd_lt hj]; exact e⟩
    · rw [if_neg c] at z; exact absurd rfl z
theorem FiH.cx {f cnt : Nat} {ru ps : Nat → Nat} (F : FiH v f cnt ru ps) (s : SCx v h) (hf : f ≠ 99) : FiH h f cnt ru ps := by
  obtain ⟨f1, f2, f3, f4, f5, f6, f7⟩ := F
  have o : ∀ k j, k = 4 ∨ k = 15 ∨ k = 16 → hI h (k, f) j = hI v (k, f) j := fun k j hk => s.1 _ _ (show k < 34 by omega) (show k ≠ 12 by omega) (fun z => by
    rcases z with z | z
    · simp at z; omega
    · exact hf z.2)
  exact ⟨by rw [o 4 _ (by simp)]; exact f1, f2, by rw [s.2.2]; exact f3, by rw [s.2.2]; exact f4, by rw [s.2.1]; exact f5, by rw [s.2.1]; exact f6, fun i hi => by rw [o 15 _ (by simp), o 16 _ (by simp)]; exact f7 i hi⟩
/-- a pool that is settled: who wins, and what it comes to -/
noncomputable def Wp (v : xH) (p : Nat) : Nat → Bool := Wc (kf p) (rnOf v (frp (hI v) p)) (atP (posM (hI v) (frp (hI v) p)) (nRn v (frp (hI v) p))) (atP (posM (hI v) (scp (hI v) p)) (nRn v (scp (hI v) p)))
noncomputable def zNp (v : xH) (nt p : Nat) : Nat := zN (lls p) (lvl (hI v) nt p) (Wp v p)
def refP (v : xH) (nt p : Nat) : Prop := vd (kf p) (rnOf v (frp (hI v) p)) ∨ (zNp v nt p = 0 ∧ kf p ≠ 3)
noncomputable def dP (v : xH) (nt p l : Nat) : Int32 := zD (kf p) (lls p) (lvl (hI v) nt p) (Wp v p) (nI (lvu (hI v) nt p)) (hI v (42, 0) p) (hI v (41, 0) p) (hI v (50, 0) p) l
noncomputable def gtP (v : xH) (nt p l : Nat) : Int32 := if zNp v nt p = 0 then 0 else if Wp v p l = true then dP v nt p l else 0
noncomputable def x3P (v : xH) (nt p : Nat) : Int32 := @ite _ (refP v nt p) (Classical.propDecidable _) 0 (zT (nI (lvu (hI v) nt p)) (hI v (42, 0) p) (hI v (41, 0) p))
noncomputable def x5P (v : xH) (nt p : Nat) : Int32 := @ite _ (refP v nt p) (Classical.propDecidable _) (hI v (50, 0) p) (if zNp v nt p = 0 then zE (nI (lvu (hI v) nt p)) (hI v (42, 0) p) (hI v (41, 0) p) (hI v (50, 0) p) else 0)
noncomputable def x8P (v : xH) (nt p : Nat) : Int32 := @ite _ (refP v nt p ∨ zNp v nt p = 0) (Classical.propDecidable _) 0 (zU (kf p) (lls p) (lvl (hI v) nt p) (Wp v p) (nI (lvu (hI v) nt p)) (hI v (42, 0) p) (hI v (41, 0) p) (hI v (50, 0) p))
noncomputable def x7P (v : xH) (nt p : Nat) : Int32 := @ite _ (refP v nt p ∨ zNp v nt p = 0) (Classical.propDecidable _) 0 (zC (kf p) (lls p) (lvl (hI v) nt p) (Wp v p) (nI (lvu (hI v) nt p)) (hI v (42, 0) p) (hI v (41, 0) p) (hI v (50, 0) p))
noncomputable def x6P (v : xH) (nt p : Nat) : Int32 := @ite _ (refP v nt p ∨ zNp v nt p = 0) (Classical.propDecidable _) 0 (zE (nI (lvu (hI v) nt p)) (hI v (42, 0) p) (hI v (41, 0) p) (hI v (50, 0) p) + x7P v nt p - x8P v nt p)
/-- dividends of the lines that win -/
noncomputable def dvP (v w : xH) (nt p : Nat) : xH := ovH w (fun n j => @ite _ (n = (18, p) ∧ j < lls p ∧ Wp v p j = true ∧ 0 < lvl (hI v) nt p j) (Classical.propDecidable _) (dP v nt p j) (hI w n j))
/-- tickets and lines of a pool that is settled -/
noncomputable def bsP (v : xH) (nt p : Nat) : xH := @ite _ (refP v nt p) (Classical.propDecidable _) (rfs p v nt) (dvP v (cts p (gtP v nt p) v nt) nt p)
/-- a pool is settled -/
noncomputable def sv (v : xH) (nr nt p : Nat) : xH := cry (ent (bsP v nt p) p (x3P v nt p) (x5P v nt p) (x6P v nt p) (x7P v nt p) (x8P v nt p)) nr p (x5P v nt p)
end Fin
