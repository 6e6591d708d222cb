section End
variable {qq : Prop} {L : Nat} {xs : Nat → Int32} {nr nt : Nat} {v h g : xH}
theorem SC.si (s : SC v h) (n : xN) (j : Nat) (a : Int32) : SC (sI v n j a) (sI h n j a) := ⟨fun n' j' h1 h2 => by
  rw [hI_sI, hI_sI]
  split
  · rfl
  · exact s.1 n' j' h1 h2, s.2.1, s.2.2⟩
theorem SM.si (s : SM v h) (n : xN) (j : Nat) (a : Int32) : SM (sI v n j a) (sI h n j a) := ⟨fun n' j' h1 => by
  rw [hI_sI, hI_sI]
  split
  · rfl
  · exact s.1 n' j' h1, s.2.1, s.2.2⟩
theorem SC.om (s : SC v h) {n : xN} (hn : 34 ≤ n.1 ∨ n.1 = 12) (j : Nat) (a : Int32) : SC (sI v n j a) h := ⟨fun n' j' h1 h2 => by
  rw [hI_sI, if_neg (fun z => by rw [z.1] at h1 h2; omega)]
  exact s.1 n' j' h1 h2, s.2.1, s.2.2⟩
theorem SM.oc (s : SM v h) {n : xN} (hn : n.1 < 34 ∧ n.1 ≠ 12) (j : Nat) (a : Int32) : SM (sI v n j a) h := ⟨fun n' j' h1 => by
  rw [hI_sI, if_neg (fun z => by rw [z.1] at h1; omega)]
  exact s.1 n' j' h1, s.2.1, s.2.2⟩
/-- writes of the other side alone -/
theorem SC.wm (s : SC v h) {n : xN} (hn : 34 ≤ n.1 ∨ n.1 = 12) (j : Nat) (a : Int32) : SC v (sI h n j a) := ⟨fun n' j' h1 h2 => by
  rw [hI_sI, if_neg (fun z => by rw [z.1] at h1 h2; omega)]
  exact s.1 n' j' h1 h2, s.2.1, s.2.2⟩
theorem SM.wc (s : SM v h) {n : xN} (hn : n.1 < 34 ∧ n.1 ≠ 12) (j : Nat) (a : Int32) : SM v (sI h n j a) := ⟨fun n' j' h1 => by
  rw [hI_sI, if_neg (fun z => by rw [z.1] at h1; omega)]
  exact s.1 n' j' h1, s.2.1, s.2.2⟩
theorem SC.eq (a : SC v g) (b : SM v g) : g = v := by
  have e2 : hI g = hI v := by
    funext n j
    by_cases c : 34 ≤ n.1 ∨ n.1 = 12
    · exact b.1 n j c
    · exact a.1 n j (by omega) (by omega)
  exact Prod.ext a.2.1 (Prod.ext e2 a.2.2)
theorem SC.tr {w : xH} (a : SC v h) (b : SC w v) : SC w h := ⟨fun n j h1 h2 => (a.1 n j h1 h2).trans (b.1 n j h1 h2), a.2.1.trans b.2.1, a.2.2.trans b.2.2⟩
theorem SM.tr {w : xH} (a : SM v h) (b : SM w v) : SM w h := ⟨fun n j h1 => (a.1 n j h1).trans (b.1 n j h1), a.2.1.trans b.2.1, a.2.2.trans b.2.2⟩
theorem SC.vs (i : InvQ qq L xs nr nt v) (s : SC v h) : VS (hS h) (hI h) L xs := ⟨by rw [s.2.1]; exact i.vs.1, fun j => by rw [s.1 _ _ (by decide) (by decide)]; exact i.vs.2 j⟩
/-- a ticket ends: the class's heap, then the model's -/
def eC (h : xH) (t p l e : Nat) (u st c : Int32) : xH := sI (sI (sI (sI h (17, p) l (hI h (17, p) l + -u)) (5, p) 9 (hI h (5, p) 9 + -u)) (19, p) e (hI h (19, p) e + c)) (10, t) 6 st
def eM (h : xH) (t p e : Nat) (st c : Int32) : xH := sI (sI h (63, 0) t st) (46 + e, 0) p (hI h (46 + e, 0) p + c)
theorem w_end (i : InvQ qq L xs nr nt v) (s : SC v h) {t p a b c u : Nat} (ht : t < nt) (k : TkF (hI v) t p a b c u) {st cc : Int32} {e : Nat} (he : e < 11) {Q : xH → Prop} (q : Q (eC h t p (lin (kf p) a b c) e (nI u) st cc)) : p_Ti_end (10, t) st (nI e) cc h Q := by
  have r := tkr i ht k
  have pr := plr i k.p49 k.there
  have w := k.cls
  have l1 := lin_lt (p := p) k.a12 k.b12 k.c12
  have l2 := lls_le (p := p)
  unfold p_Ti_end
  refine ⟨rfl, w_line i s ht k ?_⟩
  unfold p_Po_addLive
  rw [s.2.2, r.2, pr.2.2.2.1, s.2.1, pr.2.2.2.2.2.2.1, cl_n (by omega), s.i 10 t 2, w.2.1, k.eu]
  refine ⟨rfl, rfl, rfl, in_n (by omega) (by omega), in_n (by omega) (by omega), fun h5 q5 h7 q7 => ?_⟩
  have R7 : hR h7 = hR v := by rw [q7, q5]; exact s.2.2
  have S7 : hS h7 = hS v := by rw [q7, q5]; exact s.2.1
  show _ ∧ _
  rw [R7, S7, r.2, pr.2.2.2.2.2.1, pr.2.2.2.2.2.2.2.2, cl_n (by omega)]
  refine ⟨rfl, rfl, in_n (by omega) (by omega), in_n (by omega) (by omega), fun h10 q10 h12 q12 => ?_⟩
  have e7 : hI h7 (19, p) e = hI h (19, p) e := by rw [q7, q5, hI_sI, if_neg (by simp), hI_sI, if_neg (by simp)]
  have e5 : hI h5 (5, p) 9 = hI h (5, p) 9 := by rw [q5, hI_sI, if_neg (by simp)]
  rw [e5] at q7
  rw [e7, q7, q5] at q10
  rw [q12, q10]
  exact q
theorem sm_congr {f g : Nat → Nat} : ∀ n, (∀ k, k < n → f k = g k) → sm f n = sm g n
  | 0, _ => rfl
  | n + 1, e => by unfold sm; rw [sm_congr n (fun k hk => e k (by omega)), e n (by omega)]
theorem sm_ex {f g : Nat → Nat} {i : Nat} (ho : ∀ k, k ≠ i → g k = f k) : ∀ n, i < n → sm f n + g i = sm g n + f i
  | 0, h => by omega
  | n + 1, h => by
    unfold sm
    by_cases e : n = i
    · subst e
      rw [sm_congr n (fun k hk => (ho k (by omega)).symm)]; omega
    · have := sm_ex ho n (by omega)
      rw [ho n e]; omega
theorem nI_sub (x u : Nat) : nI (x + u) + -(nI u) = nI x := by
  rw [← nI_add, ← Int32.sub_eq_add_neg, Int32.add_sub_cancel]
theorem InvQ.fin (i : InvQ qq L xs nr nt h) {t p a b c u : Nat} (ht : t < nt) (k : TkF (hI h) t p a b c u) (live : hI h (63, 0) t = 0) {e : Nat} (he : e = 1 ∨ e = 2 ∨ e = 9) {st cc : Int32} (hst : st = 1 ∨ st = 2 ∨ st = 3) (hset : st = 3 ↔ hI h (43, 0) p = 1) : InvQ qq L xs nr nt (eM (eC h t p (lin (kf p) a b c) e (nI u) st cc) t p e st cc) := by
  have hp := k.p49
  have l1 := lin_lt (p := p) k.a12 k.b12 k.c12
  have st0 : st ≠ 0 := by rcases hst with rfl | rfl | rfl <;> decide
  generalize hl : lin (kf p) a b c = l at *
  have S : Sm (KL [((17, p), l), ((5, p), 9), ((19, p), e), ((10, t), 6), ((63, 0), t), ((46 + e, 0), p)]) h (eM (eC h t p l e (nI u) st cc) t p e st cc) := by
    unfold eM eC
    exact ((((((Sm.rf _ h).si _ (by simp [KL])).si _ (by simp [KL])).si _ (by simp [KL])).si _ (by simp [KL])).si _ (by simp [KL])).si _ (by simp [KL])
  have f1 : hI (eM (eC h t p l e (nI u) st cc) t p e st cc) (17, p) l = hI h (17, p) l + -(nI u) := by
    unfold eM eC; rcases he with rfl | rfl | rfl <;> simp [hI_sI]
  have f2 : hI (eM (eC h t p l e (nI u) st cc) t p e st cc) (5, p) 9 = hI h (5, p) 9 + -(nI u) := by
    unfold eM eC; rcases he with rfl | rfl | rfl <;> simp [hI_sI]
  have f3 : hI (eM (eC h t p l e (nI u) st cc) t p e st cc) (19, p) e = hI h (19, p) e + cc := by
    unfold eM eC; rcases he with rfl | rfl | rfl <;> simp [hI_sI]
  have f4 : hI (eM (eC h t p l e (nI u) st cc) t p e st cc) (10, t) 6 = st := by
    unfold eM eC; rcases he with rfl | rfl | rfl <;> simp [hI_sI]
  have f5 : hI (eM (eC h t p l e (nI u) st cc) t p e st cc) (63, 0) t = st := by
    unfold eM eC; rcases he with rfl | rfl | rfl <;> simp [hI_sI]
  have f6 : hI (eM (eC h t p l e (nI u) st cc) t p e st cc) (46 + e, 0) p = hI h (46 + e, 0) p + cc := by
    unfold eM eC; rcases he with rfl | rfl | rfl <;> simp [hI_sI]
  generalize hx : eM (eC h t p l e (nI u) st cc) t p e st cc = h2 at *
  have o58 : ∀ q, hI h2 (58, 0) q = hI h (58, 0) q := fun q => S.1 _ _ (by rcases he with rfl | rfl | rfl <;> simp [KL])
  have o59 : ∀ q, hI h2 (59, 0) q = hI h (59, 0) q := fun q => S.1 _ _ (by rcases he with rfl | rfl | rfl <;> simp [KL])
  have o60 : ∀ q, hI h2 (60, 0) q = hI h (60, 0) q := fun q => S.1 _ _ (by rcases he with rfl | rfl | rfl <;> simp [KL])
  have o61 : ∀ q, hI h2 (61, 0) q = hI h (61, 0) q := fun q => S.1 _ _ (by rcases he with rfl | rfl | rfl <;> simp [KL])
  have o62 : ∀ q, hI h2 (62, 0) q = hI h (62, 0) q := fun q => S.1 _ _ (by rcases he with rfl | rfl | rfl <;> simp [KL])
  have o63 : ∀ q, q ≠ t → hI h2 (63, 0) q = hI h (63, 0) q := fun q hq => S.1 _ _ (by rcases he with rfl | rfl | rfl <;> simp [KL, hq])
  have otl : ∀ q, tl (hI h2) q = tl (hI h) q := fun q => by unfold tl; rw [o58, o59, o60, o61]
  have hT : VT (hI h2) nt := by
    refine ⟨fun t' ht' => ?_, fun t' ht' => ?_⟩
    · have o10 : ∀ j, (t' ≠ t ∨ j ≠ 6) → hI h2 (10, t') j = hI h (10, t') j := fun j hj => S.1 _ _ (by rcases he with rfl | rfl | rfl <;> simp [KL] <;> omega)
      have o64 : ∀ q, hI h2 (64, 0) q = hI h (64, 0) q := fun q => S.1 _ _ (by rcases he with rfl | rfl | rfl <;> simp [KL])
      have o66 : ∀ q, hI h2 (66, 0) q = hI h (66, 0) q := fun q => S.1 _ _ (by rcases he with rfl | rfl | rfl <;> simp [KL])
      have o40 : ∀ q, hI h2 (40, 0) q = hI h (40, 0) q := fun q => S.1 _ _ (by rcases he with rfl | rfl | rfl <;> simp [KL])
      have o43 : ∀ q, hI h2 (43, 0) q = hI h (43, 0) q := fun q => S.1 _ _ (by rcases he with rfl | rfl | rfl <;> simp [KL])
      by_cases et : t' = t
      · subst et
        refine ⟨p, a, b, c, u, ?_⟩
        have w := k.cls
        rw [o58, o59, o60, o61, o62, o64, o66, o40, o43, f5, f4, o10 1 (by omega), o10 2 (by omega), o10 3 (by omega), o10 4 (by omega), o10 5 (by omega)]
        have fm := k.form
        refine ⟨hp, k.pool, k.there, k.a12, k.b12, k.c12, k.u1, k.u2, k.ea, k.eb, k.ec, k.eu, fm.1, fm.2.1, fm.2.2.1, fm.2.2.2.1, fm.2.2.2.2.1, fm.2.2.2.2.2, w.1, w.2.1, w.2.2.1, w.2.2.2.1, w.2.2.2.2.1, rfl, Or.inr hst, ?_⟩
        have cn := k.cnt
        rw [live] at cn
        rcases hst with rfl | rfl | rfl
        · have : ¬ hI h (43, 0) p = 1 := fun z => absurd (hset.mpr z) (by decide)
          exact Or.inr ⟨cn.elim (fun z => absurd z.2.1 this) (fun z => z.1), fun z => this z.1, by decide⟩
        · have : ¬ hI h (43, 0) p = 1 := fun z => absurd (hset.mpr z) (by decide)
          exact Or.inr ⟨cn.elim (fun z => absurd z.2.1 this) (fun z => z.1), fun z => this z.1, by decide⟩
        · have : hI h (43, 0) p = 1 := hset.mp rfl
          exact Or.inl ⟨cn.elim (fun z => z.1) (fun z => absurd ⟨this, Or.inl rfl⟩ z.2.1), this, Or.inr rfl⟩
      · have := i.vt.1 t' ht'
        simp only [o58, o59, o60, o61, o62, o64, o66, o40, o43, o63 t' et, o10 _ (Or.inl et)]
        exact this
    · rw [S.1 _ _ (by rcases he with rfl | rfl | rfl <;> simp [KL])]
      exact i.vt.2 t' ht'
  have hV : VV (hI h2) nt := by
    intro p' hp' c'
    have o40 : hI h2 (40, 0) p' = hI h (40, 0) p' := S.1 _ _ (by rcases he with rfl | rfl | rfl <;> simp [KL])
    rw [o40] at c'
    have V := i.vv p' hp' c'
    have eu : (hI h (62, 0) t).toNatClampNeg = u := by rw [k.eu, cl_n (by have := k.u2; omega)]
    by_cases ep : p' = p
    · subst ep
      have s1 := sm_ex (f := fun t => if hI h (58, 0) t = nI p' ∧ hI h (63, 0) t = 0 then (hI h (62, 0) t).toNatClampNeg else 0) (g := fun t => if hI h2 (58, 0) t = nI p' ∧ hI h2 (63, 0) t = 0 then (hI h2 (62, 0) t).toNatClampNeg else 0) (i := t) (fun q hq => by simp only [o58, o62, o63 q hq]) nt ht
      simp only [f5, st0, and_false, if_false, k.pool, live, and_self, if_true, eu] at s1
      have s1' : lvu (hI h) nt p' = lvu (hI h2) nt p' + u := s1
      refine ⟨by rw [f2, V.1, s1', nI_sub], fun l' hl' => ?_⟩
      have s2 := sm_ex (f := fun t => if hI h (58, 0) t = nI p' ∧ hI h (63, 0) t = 0 ∧ tl (hI h) t = l' then (hI h (62, 0) t).toNatClampNeg else 0) (g := fun t => if hI h2 (58, 0) t = nI p' ∧ hI h2 (63, 0) t = 0 ∧ tl (hI h2) t = l' then (hI h2 (62, 0) t).toNatClampNeg else 0) (i := t) (fun q hq => by simp only [o58, o62, o63 q hq, otl]) nt ht
      have etl : tl (hI h) t = l := by rw [tl_eq k, hl]
      by_cases el : l' = l
      · subst el
        simp only [f5, st0, false_and, and_false, if_false, k.pool, live, etl, and_self, if_true, eu] at s2
        have s2' : lvl (hI h) nt p' l' = lvl (hI h2) nt p' l' + u := s2
        rw [f1, V.2 _ hl', s2', nI_sub]
      · have el2 : ¬ l = l' := fun z => el z.symm
        simp only [f5, st0, false_and, and_false, if_false, etl, el2] at s2
        have s2' : lvl (hI h) nt p' l' = lvl (hI h2) nt p' l' := s2
        rw [S.1 (17, p') l' (by rcases he with rfl | rfl | rfl <;> simp [KL, el]), V.2 _ hl', s2']
    · have np : ¬ nI p = nI p' := fun z => ep ((nI_inj (by omega) (by omega)).mp z).symm
      have s1 := sm_ex (f := fun t => if hI h (58, 0) t = nI p' ∧ hI h (63, 0) t = 0 then (hI h (62, 0) t).toNatClampNeg else 0) (g := fun t => if hI h2 (58, 0) t = nI p' ∧ hI h2 (63, 0) t = 0 then (hI h2 (62, 0) t).toNatClampNeg else 0) (i := t) (fun q hq => by simp only [o58, o62, o63 q hq]) nt ht
      simp only [o58, k.pool, np, false_and, if_false] at s1
      have s1' : lvu (hI h) nt p' = lvu (hI h2) nt p' := by simpa [lvu, o58] using s1
      refine ⟨by rw [S.1 (5, p') 9 (by rcases he with rfl | rfl | rfl <;> simp [KL, ep]), V.1, s1'], fun l' hl' => ?_⟩
      have s2 := sm_ex (f := fun t => if hI h (58, 0) t = nI p' ∧ hI h (63, 0) t = 0 ∧ tl (hI h) t = l' then (hI h (62, 0) t).toNatClampNeg else 0) (g := fun t => if hI h2 (58, 0) t = nI p' ∧ hI h2 (63, 0) t = 0 ∧ tl (hI h2) t = l' then (hI h2 (62, 0) t).toNatClampNeg else 0) (i := t) (fun q hq => by simp only [o58, o62, o63 q hq, otl]) nt ht
      simp only [o58, k.pool, np, false_and, if_false] at s2
      have s2' : lvl (hI h) nt p' l' = lvl (hI h2) nt p' l' := by simpa [lvl, o58, otl] using s2
      rw [S.1 (17, p') l' (by rcases he with rfl | rfl | rfl <;> simp [KL, ep]), V.2 _ hl', s2']
  have hP : VP (hI h2) nr := by
    intro p' hp'
    have P := i.vp p' hp'
    have o12 : ∀ q, hI h2 (12, 0) q = hI h (12, 0) q := fun q => S.1 _ _ (by rcases he with rfl | rfl | rfl <;> simp [KL])
    have wf : frp (hI h2) p' = frp (hI h) p' := by unfold frp; rw [o12]
    have wc : scp (hI h2) p' = scp (hI h) p' := by unfold scp; rw [o12]
    have o5 : ∀ j, j ≠ 9 → hI h2 (5, p') j = hI h (5, p') j := fun j hj => S.1 _ _ (by rcases he with rfl | rfl | rfl <;> simp [KL, hj])
    have oo : ∀ q j, q = 40 ∨ q = 41 ∨ q = 42 ∨ q = 43 → hI h2 (q, 0) j = hI h (q, 0) j := fun q j hq => S.1 _ _ (by rcases he with rfl | rfl | rfl <;> simp [KL] <;> omega)
    have oe : ∀ q j, 46 ≤ q → q ≤ 55 → (q ≠ 46 + e ∨ j ≠ p) → hI h2 (q, 0) j = hI h (q, 0) j := fun q j h1 h2 h3 => S.1 _ _ (by simp only [KL, List.mem_cons, Prod.mk.injEq]; rcases he with rfl | rfl | rfl <;> simp <;> omega)
    have oc : ∀ j, (j ≠ e ∨ p' ≠ p) → hI h2 (19, p') j = hI h (19, p') j := fun j h3 => S.1 _ _ (by simp only [KL, List.mem_cons, Prod.mk.injEq]; rcases he with rfl | rfl | rfl <;> simp <;> omega)
    by_cases ep : p' = p
    · subst ep
      refine ⟨fun cc' => ?_, fun cc' => ?_⟩
      · rw [oo 40 _ (by omega)] at cc'
        have P1 := P.1 cc'
        obtain ⟨b1, b2, b3, b4, b5, b6, b7, b8, b9, ⟨c0, c1, c2, c3, c4, c5, c6, c7, c8, c9⟩, b11⟩ := P1
        rw [wf, wc, o12, o12, o5 0 (by omega), o5 1 (by omega), o5 4 (by omega), o5 5 (by omega), oo 41 _ (by omega), oo 42 _ (by omega), oo 43 _ (by omega), oc 10 (by omega)]
        have ee : ∀ q, q < 10 → hI h (19, p') q = hI h (46 + q, 0) p' → hI h2 (19, p') q = hI h2 (46 + q, 0) p' := fun q hq z => by
          by_cases eq : q = e
          · subst eq; rw [f3, f6, z]
          · rw [oc q (Or.inl eq), oe (46 + q) p' (by omega) (by omega) (by omega)]; exact z
        exact ⟨b1, b2, b3, b4, b5, b6, b7, b8, b9, ⟨ee 0 (by omega) c0, ee 1 (by omega) c1, ee 2 (by omega) c2, ee 3 (by omega) c3, ee 4 (by omega) c4, ee 5 (by omega) c5, ee 6 (by omega) c6, ee 7 (by omega) c7, ee 8 (by omega) c8, ee 9 (by omega) c9⟩, b11⟩
      · rw [oo 40 _ (by omega), k.there] at cc'; exact absurd cc' (by decide)
    · rw [wf, wc, o12, o12, o5 0 (by omega), o5 1 (by omega), o5 4 (by omega), o5 5 (by omega), oo 40 _ (by omega), oo 41 _ (by omega), oo 42 _ (by omega), oo 43 _ (by omega), oc 0 (Or.inr ep), oc 1 (Or.inr ep), oc 2 (Or.inr ep), oc 3 (Or.inr ep), oc 4 (Or.inr ep), oc 5 (Or.inr ep), oc 6 (Or.inr ep), oc 7 (Or.inr ep), oc 8 (Or.inr ep), oc 9 (Or.inr ep), oc 10 (Or.inr ep), oe 46 _ (by omega) (by omega) (Or.inr ep), oe 47 _ (by omega) (by omega) (Or.inr ep), oe 48 _ (by omega) (by omega) (Or.inr ep), oe 49 _ (by omega) (by omega) (Or.inr ep), oe 50 _ (by omega) (by omega) (Or.inr ep), oe 51 _ (by omega) (by omega) (Or.inr ep), oe 52 _ (by omega) (by omega) (Or.inr ep), oe 53 _ (by omega) (by omega) (Or.inr ep), oe 54 _ (by omega) (by omega) (Or.inr ep), oe 55 _ (by omega) (by omega) (Or.inr ep)]
      exact P
  clear f1 f2 f3 f4 f5 f6 hx
  rcases he with rfl | rfl | rfl
  · exact i.updL S (vp := Or.inr hP) (vt := Or.inr hT) (vv := Or.inr hV)
  · exact i.updL S (vp := Or.inr hP) (vt := Or.inr hT) (vv := Or.inr hV)
  · exact i.updL S (vp := Or.inr hP) (vt := Or.inr hT) (vv := Or.inr hV)
end End
