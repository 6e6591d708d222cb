section SvInv
variable {qq : Prop} {L : Nat} {xs : Nat → Int32} {nr nt : Nat} {v b w e h g : xH}
/-- as VM, with something in hand -/
def VMx (I : xN → Nat → Int32) (nt x : Nat) : Prop := ∃ ca dd re : Nat → Nat, (∀ p, p < 49 → I (50, 0) p = nI (ca p)) ∧ (∀ p, p < 49 → I (49, 0) p = nI (dd p)) ∧ I (12, 0) 22 = nI (re 0) ∧ (∀ p, p < 49 → kf p ≠ 3 → ca p = 0) ∧ (∀ p, p < 49 → ¬ I (43, 0) p = 1 → dd p = 0 ∧ I (51, 0) p = 0 ∧ I (52, 0) p = 0 ∧ I (53, 0) p = 0 ∧ I (54, 0) p = 0) ∧
  sm (fun p => if I (43, 0) p = 1 then 0 else ca p) 49 + re 0 + sm dd 49 + x ≤ sm (fun t => if I (43, 0) (I (58, 0) t).toNatClampNeg = 1 then (I (62, 0) t).toNatClampNeg * (I (42, 0) (I (58, 0) t).toNatClampNeg).toNatClampNeg else 0) nt
theorem VMx.vm {I : xN → Nat → Int32} {nt x : Nat} (z : VMx I nt x) : VM I nt := by
  obtain ⟨ca, dd, re, v1, v2, v3, v4, v5, v6⟩ := z
  exact ⟨ca, dd, re, v1, v2, v3, v4, v5, by omega⟩
theorem ex_at {α : Type} (f : Nat → α) (p : Nat) (x : α) : ∃ g : Nat → α, g p = x ∧ ∀ q, q ≠ p → g q = f q := ⟨fun q => if q = p then x else f q, by simp, fun q hq => by simp [hq]⟩
/-- what is carried finds its place -/
theorem cry1_inv (i : InvQ qq L xs nr nt e) {x : Nat} (m : VMx (hI e) nt x) (o : Option Nat) (ho : ∀ a, o = some a → a < 12 ∧ hI e (40, 0) (4 * a + 3) = 1 ∧ hI e (43, 0) (4 * a + 3) = 0) : InvQ qq L xs nr nt (cry1 e (nI x) o) := by
  obtain ⟨ca, dd, re, v1, v2, v3, v4, v5, v6⟩ := m
  cases o with
  | none =>
    rw [show cry1 e (nI x) none = sI (sI e (11, 0) 12 (hI e (11, 0) 12 + nI x)) (12, 0) 22 (hI e (12, 0) 22 + nI x) from rfl]
    generalize hh : sI (sI e (11, 0) 12 (hI e (11, 0) 12 + nI x)) (12, 0) 22 (hI e (12, 0) 22 + nI x) = f
    have s : Sm (KK [] [((11, 0), 12), ((12, 0), 22)]) e f := by rw [← hh]; exact ((Sm.rf _ e).si _ (Or.inr (by simp))).si _ (Or.inr (by simp))
    have o : ∀ k m j, k ≠ 11 → k ≠ 12 → hI f (k, m) j = hI e (k, m) j := fun k m j h1 h2 => s.1 _ _ (by simp [KK, h1, h2])
    have p11 : hI f (11, 0) 12 = hI e (11, 0) 12 + nI x := by rw [← hh, hI_sI, if_neg (by simp), hI_sI, if_pos ⟨rfl, rfl⟩]
    have p12 : hI f (12, 0) 22 = hI e (12, 0) 22 + nI x := by rw [← hh, hI_sI, if_pos ⟨rfl, rfl⟩]
    have o11 : ∀ j, j ≠ 12 → hI f (11, 0) j = hI e (11, 0) j := fun j hj => s.1 _ _ (by simp [KK, hj])
    have o12 : ∀ j, j ≠ 22 → hI f (12, 0) j = hI e (12, 0) j := fun j hj => s.1 _ _ (by simp [KK, hj])
    have n := i.vn
    refine i.updD [] [((11, 0), 12), ((12, 0), 22)] s (vm := Or.inr ⟨ca, dd, fun _ => re 0 + x, ?_, ?_, ?_, v4, ?_, ?_⟩) (vn := Or.inr ⟨?_, ?_, ?_, ?_, ?_⟩)
    · intro q hq; rw [o 50 0 _ (by omega) (by omega)]; exact v1 q hq
    · intro q hq; rw [o 49 0 _ (by omega) (by omega)]; exact v2 q hq
    · rw [p12, v3, nI_add]
    · intro q hq; rw [o 43 0 _ (by omega) (by omega), o 51 0 _ (by omega) (by omega), o 52 0 _ (by omega) (by omega), o 53 0 _ (by omega) (by omega), o 54 0 _ (by omega) (by omega)]; exact v5 q hq
    · have o43 : ∀ q, hI f (43, 0) q = hI e (43, 0) q := fun q => o 43 0 _ (by omega) (by omega)
      have o58 : ∀ q, hI f (58, 0) q = hI e (58, 0) q := fun q => o 58 0 _ (by omega) (by omega)
      have o62 : ∀ q, hI f (62, 0) q = hI e (62, 0) q := fun q => o 62 0 _ (by omega) (by omega)
      have o42 : ∀ q, hI f (42, 0) q = hI e (42, 0) q := fun q => o 42 0 _ (by omega) (by omega)
      simp only [o43, o58, o62, o42]
      omega
    · rw [p11, p12, n.1]
    · rw [o11 13 (by omega), o12 47 (by omega)]; exact n.2.1
    · rw [o11 14 (by omega), o12 62 (by omega)]; exact n.2.2.1
    · rw [o11 15 (by omega), o12 49 (by omega)]; exact n.2.2.2.1
    · intro q hq; rw [o 33 0 _ (by omega) (by omega), o 84 0 _ (by omega) (by omega)]; exact n.2.2.2.2 q hq
  | some a =>
    obtain ⟨a12, th, un⟩ := ho a rfl
    have k3 : kf (4 * a + 3) = 3 := by unfold kf; rw [if_neg (by omega)]; omega
    obtain ⟨ca', c1, c2⟩ := ex_at ca (4 * a + 3) (ca (4 * a + 3) + x)
    rw [show cry1 e (nI x) (some a) = sI (sI e (19, 4 * a + 3) 4 (hI e (19, 4 * a + 3) 4 + nI x)) (50, 0) (4 * a + 3) (hI e (50, 0) (4 * a + 3) + nI x) from rfl]
    generalize hh : sI (sI e (19, 4 * a + 3) 4 (hI e (19, 4 * a + 3) 4 + nI x)) (50, 0) (4 * a + 3) (hI e (50, 0) (4 * a + 3) + nI x) = f
    have s : Sm (KK [19, 50] []) e f := by rw [← hh]; exact ((Sm.rf _ e).si _ (Or.inl (by simp))).si _ (Or.inl (by simp))
    have o : ∀ k m j, k ≠ 19 → k ≠ 50 → hI f (k, m) j = hI e (k, m) j := fun k m j h1 h2 => s.1 _ _ (by simp [KK, h1, h2])
    have o5 : ∀ q, q ≠ 4 * a + 3 → hI f (50, 0) q = hI e (50, 0) q := fun q hq => by rw [← hh, hI_sI, if_neg (fun z => hq z.2), hI_sI, if_neg (by simp)]
    have o19 : ∀ q j, q ≠ 4 * a + 3 ∨ j ≠ 4 → hI f (19, q) j = hI e (19, q) j := fun q j hq => by
      rw [← hh, hI_sI, if_neg (by simp), hI_sI, if_neg (fun z => by have := congrArg Prod.snd z.1; simp at this; omega)]
    have p5 : hI f (50, 0) (4 * a + 3) = hI e (50, 0) (4 * a + 3) + nI x := by rw [← hh, hI_sI, if_pos ⟨rfl, rfl⟩]
    have p19 : hI f (19, 4 * a + 3) 4 = hI e (19, 4 * a + 3) 4 + nI x := by rw [← hh, hI_sI, if_neg (by simp), hI_sI, if_pos ⟨rfl, rfl⟩]
    have fr : frp (hI f) = frp (hI e) := by funext q; unfold frp; rw [o 12 0 _ (by omega) (by omega)]
    have sc : scp (hI f) = scp (hI e) := by funext q; unfold scp; rw [o 12 0 _ (by omega) (by omega)]
    refine i.updD [19, 50] [] s (vp := Or.inr (fun q hq => ?_)) (vm := Or.inr ⟨ca', dd, re, fun q hq => ?_, fun q hq => ?_, ?_, fun q hq k => ?_, fun q hq => ?_, ?_⟩)
    · have z := i.vp q hq
      have e4 : hI f (19, q) 4 = hI f (50, 0) q ↔ hI e (19, q) 4 = hI e (50, 0) q := by
        by_cases c : q = 4 * a + 3
        · rw [c, p5, p19]; exact ⟨fun y => by have := congrArg (fun z => z - nI x) y; simpa [Int32.add_sub_cancel] using this, fun y => by rw [y]⟩
        · rw [o5 q c, o19 q 4 (Or.inl c)]
      have e5 : hI e (40, 0) q = 0 → hI f (50, 0) q = hI e (50, 0) q := fun y => o5 q (fun c => by rw [c, th] at y; exact absurd y (by decide))
      refine ⟨fun c => ?_, fun c => ?_⟩
      · rw [o 40 0 _ (by omega) (by omega)] at c
        have z' := z.1 c
        rw [fr, sc, e4, o 12 0 _ (by omega) (by omega), o 12 0 _ (by omega) (by omega), o 5 q _ (by omega) (by omega), o 5 q _ (by omega) (by omega), o 5 q _ (by omega) (by omega), o 5 q _ (by omega) (by omega), o 41 0 _ (by omega) (by omega), o 42 0 _ (by omega) (by omega), o 43 0 _ (by omega) (by omega), o 46 0 _ (by omega) (by omega), o 47 0 _ (by omega) (by omega), o 48 0 _ (by omega) (by omega), o 49 0 _ (by omega) (by omega), o 51 0 _ (by omega) (by omega), o 52 0 _ (by omega) (by omega), o 53 0 _ (by omega) (by omega), o 54 0 _ (by omega) (by omega), o 55 0 _ (by omega) (by omega), o19 q 0 (Or.inr (by omega)), o19 q 1 (Or.inr (by omega)), o19 q 2 (Or.inr (by omega)), o19 q 3 (Or.inr (by omega)), o19 q 5 (Or.inr (by omega)), o19 q 6 (Or.inr (by omega)), o19 q 7 (Or.inr (by omega)), o19 q 8 (Or.inr (by omega)), o19 q 9 (Or.inr (by omega)), o19 q 10 (Or.inr (by omega))]
        exact z'
      · rw [o 40 0 _ (by omega) (by omega)] at c
        have z' := z.2 c
        rw [e5 c, o 43 0 _ (by omega) (by omega), o 46 0 _ (by omega) (by omega), o 47 0 _ (by omega) (by omega), o 48 0 _ (by omega) (by omega), o 49 0 _ (by omega) (by omega), o 51 0 _ (by omega) (by omega), o 52 0 _ (by omega) (by omega), o 53 0 _ (by omega) (by omega), o 54 0 _ (by omega) (by omega), o 55 0 _ (by omega) (by omega)]
        exact z'
    · by_cases c : q = 4 * a + 3
      · rw [c, p5, v1 _ (by omega), nI_add, c1]
      · rw [o5 q c, c2 q c]; exact v1 q hq
    · rw [o 49 0 _ (by omega) (by omega)]; exact v2 q hq
    · rw [o 12 0 _ (by omega) (by omega)]; exact v3
    · by_cases c : q = 4 * a + 3
      · rw [c] at k; exact absurd k3 k
      · rw [c2 q c]; exact v4 q hq k
    · rw [o 43 0 _ (by omega) (by omega), o 51 0 _ (by omega) (by omega), o 52 0 _ (by omega) (by omega), o 53 0 _ (by omega) (by omega), o 54 0 _ (by omega) (by omega)]; exact v5 q hq
    · have o43 : ∀ q, hI f (43, 0) q = hI e (43, 0) q := fun q => o 43 0 _ (by omega) (by omega)
      have o58 : ∀ q, hI f (58, 0) q = hI e (58, 0) q := fun q => o 58 0 _ (by omega) (by omega)
      have o62 : ∀ q, hI f (62, 0) q = hI e (62, 0) q := fun q => o 62 0 _ (by omega) (by omega)
      have o42 : ∀ q, hI f (42, 0) q = hI e (42, 0) q := fun q => o 42 0 _ (by omega) (by omega)
      simp only [o43, o58, o62, o42]
      have z := sm_ex (f := fun q => if hI e (43, 0) q = 1 then 0 else ca q) (g := fun q => if hI e (43, 0) q = 1 then 0 else ca' q) (i := 4 * a + 3) (fun k hk => by show (if _ then _ else _) = (if _ then _ else _); rw [c2 k hk]) 49 (by omega)
      simp only [un, c1] at z
      simp at z
      omega
theorem InvQ.wk (i : InvQ qq L xs nr nt v) : InvQ False L xs nr nt v := by
  obtain ⟨a1, a2, a3, a4, a5, a6, a7, a8, a9, a10, a11, a12, a13, a14, a15, a16, a17, a18, q1, q2⟩ := i
  exact ⟨a1, a2, a3, a4, a5, a6, a7, a8, a9, a10, a11, a12, a13, a14, a15, a16, a17, a18, q1, fun z => z.elim⟩
theorem VDo {I J : xN → Nat → Int32} {nt : Nat} (d : VD I nt) (e : ∀ k m j, k = 18 ∨ k = 40 ∨ (58 ≤ k ∧ k ≤ 61) ∨ k = 65 ∨ k = 66 → J (k, m) j = I (k, m) j) : VD J nt := by
  have et : ∀ t, tl J t = tl I t := fun t => by unfold tl; rw [e 58 _ _ (by omega), e 59 _ _ (by omega), e 60 _ _ (by omega), e 61 _ _ (by omega)]
  intro q hq c l hl
  rw [e 40 _ _ (by omega)] at c
  have z := d q hq c l hl
  refine ⟨fun t ht h1 h2 h3 => ?_, fun y => ?_⟩
  · rw [e 66 _ _ (by omega)] at h1
    rw [e 58 _ _ (by omega)] at h2
    rw [et] at h3
    rw [e 18 _ _ (by omega), e 65 _ _ (by omega)]
    exact z.1 t ht h1 h2 h3
  · rw [e 18 _ _ (by omega)]
    refine z.2 (fun t ht h1 h2 => ?_)
    rw [← et]
    exact y t ht (by rw [e 66 _ _ (by omega)]; exact h1) (by rw [e 58 _ _ (by omega)]; exact h2)
/-- a pool is entered as settled -/
theorem ent_inv (i : InvQ qq L xs nr nt b) {p : Nat} (hp : p < 49) (there : hI b (40, 0) p = 1) (uns : hI b (43, 0) p = 0) (st1 : hI b (35, 0) (frp (hI b) p) = 2) (st2 : hI b (35, 0) (scp (hI b) p) = 2) (kw : Sm (KK [18, 65, 66] []) b w)
    (T1 : ∀ t, t < nt → hI b (58, 0) t = nI p → hI b (63, 0) t = 0 → hI w (66, 0) t = 1) (T2 : ∀ t, (t < nt → hI b (58, 0) t = nI p → ¬ hI b (63, 0) t = 0) → hI w (66, 0) t = hI b (66, 0) t) (D : VD (hI w) nt) {x3 x5 : Nat} {X6 X7 X8 : Int32}
    (M : ∀ ca un, hI b (50, 0) p = nI ca → ca ≤ 200000000 → hI b (42, 0) p = nI un → un ≤ 1000 → x3 + x5 ≤ lvu (hI b) nt p * un + ca) :
    InvQ False L xs nr nt (ent w p (nI x3) (nI x5) X6 X7 X8) ∧ VMx (hI (ent w p (nI x3) (nI x5) X6 X7 X8)) nt x5 := by
  generalize hf : ent w p (nI x3) (nI x5) X6 X7 X8 = f
  have s : Sm (KK [18, 19, 43, 49, 51, 52, 53, 54, 65, 66] []) b f := by
    rw [← hf]; unfold ent
    exact ((((((((((((kw.mono (fun n j z => by simp [KK] at z ⊢; omega)).si _ (Or.inl (by simp))).si _ (Or.inl (by simp))).si _ (Or.inl (by simp))).si _ (Or.inl (by simp))).si _ (Or.inl (by simp))).si _ (Or.inl (by simp))).si _ (Or.inl (by simp))).si _ (Or.inl (by simp))).si _ (Or.inl (by simp))).si _ (Or.inl (by simp))).si _ (Or.inl (by simp))).si _ (Or.inl (by simp))
  have o : ∀ k m j, (k ≠ 18 ∧ k ≠ 19 ∧ k ≠ 43 ∧ ¬ (49 ≤ k ∧ k ≤ 66)) ∨ k = 50 ∨ (54 < k ∧ k < 65) → hI f (k, m) j = hI b (k, m) j := fun k m j hk => s.1 _ _ (by simp [KK]; omega)
  have ow : ∀ k m j, k = 18 ∨ k = 65 ∨ k = 66 → hI f (k, m) j = hI w (k, m) j := fun k m j hk => by
    rw [← hf]; unfold ent
    rcases hk with c | c | c <;> (subst c; simp [hI_sI])
  have wb : ∀ k m j, k ≠ 18 → k ≠ 65 → k ≠ 66 → hI w (k, m) j = hI b (k, m) j := fun k m j h1 h2 h3 => kw.1 _ _ (by simp [KK]; omega)
  have oq : ∀ k q, q ≠ p → k = 43 ∨ (49 ≤ k ∧ k ≤ 54) → hI f (k, 0) q = hI b (k, 0) q := fun k q hq hk => by
    rw [← wb k 0 q (by omega) (by omega) (by omega), ← hf]; unfold ent
    have k19 : k ≠ 19 := by omega
    simp [hI_sI, hq, k19]
  have o19 : ∀ q j, q ≠ p → hI f (19, q) j = hI b (19, q) j := fun q j hq => by
    rw [← wb 19 q j (by omega) (by omega) (by omega), ← hf]; unfold ent
    simp [hI_sI, hq]
  have p19 : ∀ j, j < 3 ∨ j = 4 ∨ j = 9 → hI f (19, p) j = hI b (19, p) j := fun j hj => by
    rw [← wb 19 p j (by omega) (by omega) (by omega), ← hf]; unfold ent
    rcases hj with hj | hj | hj
    · have : j = 0 ∨ j = 1 ∨ j = 2 := by omega
      rcases this with c | c | c <;> (subst c; simp [hI_sI])
    · subst hj; simp [hI_sI]
    · subst hj; simp [hI_sI]
  have p43 : hI f (43, 0) p = 1 := by rw [← hf]; unfold ent; simp [hI_sI]
  have p49 : hI f (49, 0) p = nI x3 := by rw [← hf]; unfold ent; simp [hI_sI]
  have pe : hI f (19, p) 3 = hI f (49, 0) p ∧ hI f (19, p) 5 = hI f (51, 0) p ∧ hI f (19, p) 6 = hI f (52, 0) p ∧ hI f (19, p) 7 = hI f (53, 0) p ∧ hI f (19, p) 8 = hI f (54, 0) p ∧ hI f (19, p) 10 = hI f (43, 0) p := by
    rw [← hf]; unfold ent; simp [hI_sI]
  have fr : frp (hI f) = frp (hI b) := by funext q; unfold frp; rw [o 12 0 _ (by omega)]
  have sc : scp (hI f) = scp (hI b) := by funext q; unfold scp; rw [o 12 0 _ (by omega)]
  have mx : VMx (hI f) nt x5 := by
    obtain ⟨ca, dd, re, v1, v2, v3, v4, v5, v6⟩ := i.vm
    obtain ⟨u, u1, u2, u3⟩ := (plk i hp there).2.2.2.2.2.1
    obtain ⟨dd', d1, d2⟩ := ex_at dd p x3
    have B := stakes_le i (fun t => hI b (43, 0) (hI b (58, 0) t).toNatClampNeg = 1)
    have nu : ¬ hI b (43, 0) p = 1 := by rw [uns]; decide
    have z1 := sm_ex (f := fun q => if hI b (43, 0) q = 1 then 0 else ca q) (g := fun q => if hI f (43, 0) q = 1 then 0 else ca q) (i := p) (fun k hk => by show (if _ then _ else _) = (if _ then _ else _); rw [oq 43 k hk (by omega)]) 49 hp
    simp only [if_neg nu, p43, if_true, Nat.add_zero] at z1
    have z2 := sm_ex (f := dd) (g := dd') (i := p) (fun k hk => d2 k hk) 49 hp
    rw [d1, (v5 p hp nu).1] at z2
    have mm := M (ca p) u (v1 p hp) (by omega) u3 u2
    have ll := lvu_le i hp u3 u2
    have z3 : sm (fun t => if hI f (43, 0) (hI f (58, 0) t).toNatClampNeg = 1 then (hI f (62, 0) t).toNatClampNeg * (hI f (42, 0) (hI f (58, 0) t).toNatClampNeg).toNatClampNeg else 0) nt = sm (fun t => if hI b (43, 0) (hI b (58, 0) t).toNatClampNeg = 1 then (hI b (62, 0) t).toNatClampNeg * (hI b (42, 0) (hI b (58, 0) t).toNatClampNeg).toNatClampNeg else 0) nt + sm (fun t => if (hI b (58, 0) t).toNatClampNeg = p then (hI b (62, 0) t).toNatClampNeg * (hI b (42, 0) (hI b (58, 0) t).toNatClampNeg).toNatClampNeg else 0) nt := by
      rw [← sm_add]
      refine sm_congr nt (fun t _ => ?_)
      rw [o 58 0 _ (by omega), o 62 0 _ (by omega), o 42 0 _ (by omega)]
      by_cases c : (hI b (58, 0) t).toNatClampNeg = p
      · rw [if_pos c, c, p43, if_pos rfl, if_neg nu]; omega
      · rw [if_neg c, oq 43 _ c (by omega)]; omega
    refine ⟨ca, dd', re, fun q hq => by rw [o 50 0 _ (by omega)]; exact v1 q hq, fun q hq => ?_, by rw [o 12 0 _ (by omega)]; exact v3, v4, fun q hq y => ?_, ?_⟩
    · by_cases c : q = p
      · rw [c, p49, d1]
      · rw [oq 49 q c (by omega), d2 q c]; exact v2 q hq
    · have c : q ≠ p := fun c => y (by rw [c]; exact p43)
      rw [oq 43 q c (by omega)] at y
      rw [oq 51 q c (by omega), oq 52 q c (by omega), oq 53 q c (by omega), oq 54 q c (by omega), d2 q c]
      exact v5 q hq y
    · rw [z3]; omega
  refine ⟨i.wk.updD [18, 19, 43, 49, 51, 52, 53, 54, 65, 66] [] s (vp := Or.inr (fun q hq => ?_)) (vt := Or.inr ⟨fun t ht => ?_, fun t ht => ?_⟩) (vd := Or.inr ?_) (vm := Or.inr mx.vm) (vq := Or.inr ⟨fun q hq c => ?_, fun z => z.elim⟩), mx⟩
  · have z := i.vp q hq
    by_cases c : q = p
    · subst c
      refine ⟨fun _ => ?_, fun y => ?_⟩
      · have z' := z.1 there
        rw [fr, sc, o 12 0 _ (by omega), o 12 0 _ (by omega), o 5 q _ (by omega), o 5 q _ (by omega), o 5 q _ (by omega), o 5 q _ (by omega), o 41 0 _ (by omega), o 42 0 _ (by omega), o 46 0 _ (by omega), o 47 0 _ (by omega), o 48 0 _ (by omega), o 50 0 _ (by omega), o 55 0 _ (by omega), p19 0 (by omega), p19 1 (by omega), p19 2 (by omega), p19 4 (by omega), p19 9 (by omega), pe.1, pe.2.1, pe.2.2.1, pe.2.2.2.1, pe.2.2.2.2.1, pe.2.2.2.2.2]
        obtain ⟨y1, y2, y3, y4, y5, y6, y7, y8, y9, ⟨b0, b1, b2, b3, b4, b5, b6, b7, b8, b9⟩, -⟩ := z'
        exact ⟨y1, y2, y3, y4, y5, y6, y7, y8, y9, ⟨b0, b1, b2, rfl, b4, rfl, rfl, rfl, rfl, b9⟩, rfl⟩
      · rw [o 40 0 _ (by omega), there] at y; exact absurd y (by decide)
    · rw [fr, sc, o 40 0 _ (by omega), o 12 0 _ (by omega), o 12 0 _ (by omega), o 5 q _ (by omega), o 5 q _ (by omega), o 5 q _ (by omega), o 5 q _ (by omega), o 41 0 _ (by omega), o 42 0 _ (by omega), oq 43 q c (by omega), o 46 0 _ (by omega), o 47 0 _ (by omega), o 48 0 _ (by omega), oq 49 q c (by omega), o 50 0 _ (by omega), oq 51 q c (by omega), oq 52 q c (by omega), oq 53 q c (by omega), oq 54 q c (by omega), o 55 0 _ (by omega), o19 q 0 c, o19 q 1 c, o19 q 2 c, o19 q 3 c, o19 q 4 c, o19 q 5 c, o19 q 6 c, o19 q 7 c, o19 q 8 c, o19 q 9 c, o19 q 10 c]
      exact z
  · obtain ⟨q, A, B, C, u, k⟩ := i.vt.1 t ht
    replace k : TkF (hI b) t q A B C u := k
    have hq := k.p49
    have kc := k.cnt
    refine ⟨q, A, B, C, u, ?_⟩
    obtain ⟨k1, k2, k3, k4, k5, k6, k7, k8, k9, k10, k11, k12, k13, k14, k15, k16, k17, k18, k19, k20, k21, k22, k23, k24, k25, k26⟩ := k
    rw [o 58 0 _ (by omega), o 59 0 _ (by omega), o 60 0 _ (by omega), o 61 0 _ (by omega), o 62 0 _ (by omega), o 63 0 _ (by omega), o 64 0 _ (by omega), o 40 0 _ (by omega), o 10 t _ (by omega), o 10 t _ (by omega), o 10 t _ (by omega), o 10 t _ (by omega), o 10 t _ (by omega), o 10 t _ (by omega), ow 66 0 t (by omega)]
    refine ⟨k1, k2, k3, k4, k5, k6, k7, k8, k9, k10, k11, k12, k13, k14, k15, k16, k17, k18, k19, k20, k21, k22, k23, k24, k25, ?_⟩
    by_cases c : q = p
    · subst c
      rw [p43]
      have c0 : hI b (66, 0) t = 0 ∧ ¬ hI b (63, 0) t = 3 := kc.elim (fun y => absurd (uns.symm.trans y.2.1) (by decide)) (fun y => ⟨y.1, y.2.2⟩)
      by_cases l : hI b (63, 0) t = 0
      · exact Or.inl ⟨T1 t ht k2 l, rfl, Or.inl l⟩
      · exact Or.inr ⟨by rw [T2 t (fun _ _ => l)]; exact c0.1, fun y => y.2.elim l c0.2, c0.2⟩
    · rw [oq 43 q c (by omega), T2 t (fun _ y => absurd ((nI_inj (by omega) (by omega)).mp (k2.symm.trans y)) c)]
      exact kc
  · rw [ow 66 0 t (by omega), T2 t (fun y => by omega)]
    exact i.vt.2 t ht
  · refine VDo D (fun k m j hk => ?_)
    rcases hk with c | c | c | c | c
    · exact ow k m j (by omega)
    · rw [o k m j (by omega), wb k m j (by omega) (by omega) (by omega)]
    · rw [o k m j (by omega), wb k m j (by omega) (by omega) (by omega)]
    · exact ow k m j (by omega)
    · exact ow k m j (by omega)
  · rw [fr, sc, o 35 0 _ (by omega), o 35 0 _ (by omega)]
    by_cases y : q = p
    · subst y; exact Or.inl ⟨p43, st1, st2⟩
    · rw [oq 43 q y (by omega)]
      exact i.vqw q hq (by rw [← o 40 0 _ (by omega)]; exact c)
end SvInv
