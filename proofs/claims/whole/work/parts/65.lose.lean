section Lose
variable {qq : Prop} {L : Nat} {xs : Nat → Int32} {nr nt : Nat} {v h g : xH}
def skI (I : xN → Nat → Int32) (t : Nat) : Int32 := I (62, 0) t * I (42, 0) (I (58, 0) t).toNatClampNeg
theorem skI_eq {I : xN → Nat → Int32} {t p a b c u : Nat} (k : TkF I t p a b c u) : skI I t = nI u * I (42, 0) p := by
  unfold skI
  rw [k.pool, k.eu, cl_n (by have := k.p49; omega)]
theorem w_refund (i : InvQ qq L xs nr nt v) (s : SC v h) {t p a b c u : Nat} (ht : t < nt) (k : TkF (hI v) t p a b c u) {Q : xH → Prop} (q : Q (eC h t p (lin (kf p) a b c) 2 (nI u) 2 (skI (hI v) t))) : p_Ti_refund (10, t) h Q := by
  have r := tkr i ht k
  have pk := plk i k.p49 k.there
  unfold p_Ti_refund p_Ti_stake
  rw [s.2.2, r.2, s.i 10 t 2, k.cls.2.1, k.eu, s.i 5 p 5, pk.2.2.2.1]
  rw [skI_eq k] at q
  exact ⟨rfl, rfl, rfl, w_end (e := 2) i s ht k (by omega) q⟩
theorem w_mrefund (i : InvQ qq L xs nr nt v) (s : SM v g) {t p a b c u : Nat} (ht : t < nt) (k : TkF (hI v) t p a b c u) {Q : xH → Prop} (q : Q (eM g t p 2 2 (skI (hI v) t))) : p_M_refund (12, 0) (nI t) g Q := by
  have hn := i.vc.2.1
  have hp := k.p49
  have m := SM.m i s
  unfold p_M_refund
  rw [mR29 m, mS29 m, cl_n (by omega)]
  refine ⟨rfl, rfl, in_n (by omega) (by omega), fun h4 q4 => ?_⟩
  have m4 : ShM (hS h4) (hR h4) := by rw [q4]; exact m
  have o4 : ∀ n j, n ≠ (63, 0) → hI h4 n j = hI g n j := fun n j hn => by rw [q4, hI_sI, if_neg (fun z => hn z.1)]
  have e58 : hI h4 (58, 0) t = nI p := by rw [o4 _ _ (by simp), s.i 58]; exact k.pool
  rw [mR24 m4, mS24 m4, mR14 m4, mS14 m4, e58, cl_n (by omega)]
  refine ⟨rfl, in_n (by omega) (by omega), rfl, in_n (by omega) (by omega), w_mstake m4 (by omega) hp e58 ⟨by rw [mS14 m4]; exact in_n (by omega) (by omega), fun h13 q13 => ?_⟩⟩
  rw [o4 (62, 0) t (by simp), o4 (42, 0) p (by simp), o4 (48, 0) p (by simp), s.i 62, s.i 42, k.eu, ← skI_eq k] at q13
  rw [q13, q4]; exact q
def refv (v : xH) (t : Nat) : xH := eM (eC v t (hI v (58, 0) t).toNatClampNeg (tl (hI v) t) 2 (hI v (62, 0) t) 2 (skI (hI v) t)) t (hI v (58, 0) t).toNatClampNeg 2 2 (skI (hI v) t)
theorem refv_eq {t p a b c u : Nat} (k : TkF (hI v) t p a b c u) : refv v t = eM (eC v t p (lin (kf p) a b c) 2 (nI u) 2 (skI (hI v) t)) t p 2 2 (skI (hI v) t) := by
  unfold refv
  rw [tl_eq k, k.pool, k.eu, cl_n (by have := k.p49; omega)]
theorem refv_sm (v : xH) (t : Nat) : Sm (KK [17, 5, 19, 10, 63, 48] []) v (refv v t) := by
  unfold refv eM eC
  exact ((((((Sm.rf _ v).si _ (Or.inl (by simp))).si _ (Or.inl (by simp))).si _ (Or.inl (by simp))).si _ (Or.inl (by simp))).si _ (Or.inl (by simp))).si _ (Or.inl (by simp))
theorem refv_inv (i : InvQ qq L xs nr nt v) {t p a b c u : Nat} (ht : t < nt) (k : TkF (hI v) t p a b c u) (live : hI v (63, 0) t = 0) (uns : hI v (43, 0) p = 0) : InvQ qq L xs nr nt (refv v t) := by
  rw [refv_eq k]
  exact i.fin ht k live (Or.inr (Or.inl rfl)) (Or.inr (Or.inl rfl)) ⟨fun z => absurd z (by decide), fun z => absurd (uns.symm.trans z) (by decide)⟩
/-- a substitute serves -/
def subC (h : xH) (t slot lo ln : Nat) (u sub : Int32) : xH :=
  sI (sI (sI (sI (sI h (17, 48) lo (hI h (17, 48) lo + -u)) (5, 48) 9 (hI h (5, 48) 9 + -u)) (10, t) slot sub) (17, 48) ln ((if ln = lo then hI h (17, 48) lo + -u else hI h (17, 48) ln) + u)) (5, 48) 9 (hI h (5, 48) 9 + -u + u)
theorem subC_kc (h : xH) (t slot lo ln : Nat) (u sub : Int32) : Sm KC h (subC h t slot lo ln u sub) := (((((Sm.rf _ h).si _ (by simp [KC])).si _ (by simp [KC])).si _ (by simp [KC])).si _ (by simp [KC])).si _ (by simp [KC])
theorem subC_sc (s : SC v h) (t slot lo ln : Nat) (u sub : Int32) : SC (sI (subC v t slot lo ln u sub) (56 + slot, 0) t sub) (subC h t slot lo ln u sub) := by
  unfold subC
  rw [s.i 17 48, s.i 17 48, s.i 5 48]
  exact (((((s.si _ _ _).si _ _ _).si _ _ _).si _ _ _).si _ _ _).om (Or.inl (by simp; omega)) _ _
theorem subC_sm (s : SM v g) (t slot lo ln : Nat) (u sub : Int32) : SM (sI (subC v t slot lo ln u sub) (56 + slot, 0) t sub) (sI g (56 + slot, 0) t sub) := by
  refine SM.si ?_ _ _ _
  unfold subC
  exact ((((s.oc ⟨by simp, by simp⟩ _ _).oc ⟨by simp, by simp⟩ _ _).oc ⟨by simp, by simp⟩ _ _).oc ⟨by simp, by simp⟩ _ _).oc ⟨by simp, by simp⟩ _ _
theorem neg_c (x u : Int32) : x + -u + u = x := by rw [← Int32.sub_eq_add_neg, Int32.sub_add_cancel]
theorem InvQ.subst (i : InvQ qq L xs nr nt h) {t a b c u : Nat} (ht : t < nt) (k : TkF (hI h) t 48 a b c u) (live : hI h (63, 0) t = 0) (uns : hI h (43, 0) 48 = 0) {sub slot : Nat} (s1 : 1 ≤ sub) (s12 : sub ≤ 12) (hs : slot = 3 ∨ slot = 4) : InvQ qq L xs nr nt (sI (subC h t slot (a * 13 + b) ((if slot = 3 then sub else a) * 13 + (if slot = 3 then b else sub)) (nI u) (nI sub)) (56 + slot, 0) t (nI sub)) := by
  have ha := k.a12; have hb := k.b12; have hu := k.u2
  have fm := k.form
  have k4 : kf 48 = 4 := rfl
  generalize ea : (if slot = 3 then sub else a) = a'
  generalize eb : (if slot = 3 then b else sub) = b'
  have ha' : a' ≤ 12 := by rw [← ea]; split <;> assumption
  have hb' : b' ≤ 12 := by rw [← eb]; split <;> assumption
  have ha1 : 1 ≤ a' := by
    rw [← ea]; split
    · exact s1
    · exact fm.1
  have hb1 : 1 ≤ b' := by
    rw [← eb]; split
    · exact fm.2.2.1 (by omega)
    · exact s1
  have S : Sm (KK [17] [((5, 48), 9), ((10, t), slot), ((56 + slot, 0), t)]) h (sI (subC h t slot (a * 13 + b) (a' * 13 + b') (nI u) (nI sub)) (56 + slot, 0) t (nI sub)) := by
    unfold subC
    exact ((((((Sm.rf _ h).si _ (Or.inl (by simp))).si _ (Or.inr (by simp))).si _ (Or.inr (by simp))).si _ (Or.inl (by simp))).si _ (Or.inr (by simp))).si _ (Or.inr (by simp))
  have f17 : ∀ l, hI (sI (subC h t slot (a * 13 + b) (a' * 13 + b') (nI u) (nI sub)) (56 + slot, 0) t (nI sub)) (17, 48) l = if l = a' * 13 + b' then (if a' * 13 + b' = a * 13 + b then hI h (17, 48) (a * 13 + b) + -(nI u) else hI h (17, 48) (a' * 13 + b')) + nI u else if l = a * 13 + b then hI h (17, 48) (a * 13 + b) + -(nI u) else hI h (17, 48) l := fun l => by
    unfold subC
    rw [hI_sI, if_neg (by simp)]
    simp [hI_sI]
  have f17o : ∀ p l, p ≠ 48 → hI (sI (subC h t slot (a * 13 + b) (a' * 13 + b') (nI u) (nI sub)) (56 + slot, 0) t (nI sub)) (17, p) l = hI h (17, p) l := fun p l hp => by
    unfold subC
    rw [hI_sI, if_neg (by simp; omega)]
    simp [hI_sI, hp]
  have f5 : hI (sI (subC h t slot (a * 13 + b) (a' * 13 + b') (nI u) (nI sub)) (56 + slot, 0) t (nI sub)) (5, 48) 9 = hI h (5, 48) 9 := by
    unfold subC
    rw [hI_sI, if_neg (by simp), hI_sI, if_pos ⟨rfl, rfl⟩, neg_c]
  have f10 : hI (sI (subC h t slot (a * 13 + b) (a' * 13 + b') (nI u) (nI sub)) (56 + slot, 0) t (nI sub)) (10, t) slot = nI sub := by
    unfold subC
    rw [hI_sI, if_neg (by simp; omega)]
    simp [hI_sI]
  have fM : hI (sI (subC h t slot (a * 13 + b) (a' * 13 + b') (nI u) (nI sub)) (56 + slot, 0) t (nI sub)) (56 + slot, 0) t = nI sub := by
    rw [hI_sI, if_pos ⟨rfl, rfl⟩]
  generalize hx : sI (subC h t slot (a * 13 + b) (a' * 13 + b') (nI u) (nI sub)) (56 + slot, 0) t (nI sub) = h2 at *
  have oM : ∀ q j, 34 ≤ q → (q ≠ 56 + slot ∨ j ≠ t) → hI h2 (q, 0) j = hI h (q, 0) j := fun q j h1 h2 => S.1 _ _ (by simp only [KK, List.mem_cons, Prod.mk.injEq]; simp; omega)
  have o10 : ∀ t' j, (t' ≠ t ∨ j ≠ slot) → hI h2 (10, t') j = hI h (10, t') j := fun t' j h1 => S.1 _ _ (by simp only [KK, List.mem_cons, Prod.mk.injEq]; simp; omega)
  have o58 : ∀ q, hI h2 (58, 0) q = hI h (58, 0) q := fun q => oM 58 q (by omega) (by omega)
  have o61 : ∀ q, hI h2 (61, 0) q = hI h (61, 0) q := fun q => oM 61 q (by omega) (by omega)
  have o62 : ∀ q, hI h2 (62, 0) q = hI h (62, 0) q := fun q => oM 62 q (by omega) (by omega)
  have o63 : ∀ q, hI h2 (63, 0) q = hI h (63, 0) q := fun q => oM 63 q (by omega) (by omega)
  have o66 : ∀ q, hI h2 (66, 0) q = hI h (66, 0) q := fun q => oM 66 q (by omega) (by omega)
  have o65 : ∀ q, hI h2 (65, 0) q = hI h (65, 0) q := fun q => oM 65 q (by omega) (by omega)
  have o40 : ∀ q, hI h2 (40, 0) q = hI h (40, 0) q := fun q => oM 40 q (by omega) (by omega)
  have o43 : ∀ q, hI h2 (43, 0) q = hI h (43, 0) q := fun q => oM 43 q (by omega) (by omega)
  have e59 : hI h2 (59, 0) t = nI a' := by
    rcases hs with rfl | rfl
    · have : a' = sub := by rw [← ea, if_pos rfl]
      rw [this]; exact fM
    · have : a' = a := by rw [← ea, if_neg (by omega)]
      rw [oM 59 t (by omega) (by omega), this]; exact k.ea
  have e60 : hI h2 (60, 0) t = nI b' := by
    rcases hs with rfl | rfl
    · have : b' = b := by rw [← eb, if_pos rfl]
      rw [oM 60 t (by omega) (by omega), this]; exact k.eb
    · have : b' = sub := by rw [← eb, if_neg (by omega)]
      rw [this]; exact fM
  have e3 : hI h2 (10, t) 3 = nI a' := by
    rcases hs with rfl | rfl
    · have : a' = sub := by rw [← ea, if_pos rfl]
      rw [this]; exact f10
    · have : a' = a := by rw [← ea, if_neg (by omega)]
      rw [o10 t 3 (by omega), this, k.cls.2.2.1]; exact k.ea
  have e4 : hI h2 (10, t) 4 = nI b' := by
    rcases hs with rfl | rfl
    · have : b' = b := by rw [← eb, if_pos rfl]
      rw [o10 t 4 (by omega), this, k.cls.2.2.2.1]; exact k.eb
    · have : b' = sub := by rw [← eb, if_neg (by omega)]
      rw [this]; exact f10
  have tnew : TkF (hI h2) t 48 a' b' c u := by
    unfold TkF
    rw [o58, e59, e60, o61, o62, o63, o66, o40, o43, oM 64 t (by omega) (by omega), o10 t 1 (by omega), o10 t 2 (by omega), e3, e4, o10 t 5 (by omega), o10 t 6 (by omega)]
    have w := k.cls
    exact ⟨k.p49, k.pool, k.there, ha', hb', k.c12, k.u1, k.u2, rfl, rfl, k.ec, k.eu, ha1, fun z => by rw [k4] at z; omega, fun _ => hb1, fm.2.2.2.1, fun z => by rw [k4] at z; omega, fun z => by rw [k4] at z; omega, w.1, w.2.1, rfl, rfl, w.2.2.2.2.1, w.2.2.2.2.2, k.st, k.cnt⟩
  have otl : ∀ q, q ≠ t → tl (hI h2) q = tl (hI h) q := fun q hq => by unfold tl; rw [o58, o61, oM 59 q (by omega) (by omega), oM 60 q (by omega) (by omega)]
  have etl : tl (hI h) t = a * 13 + b := (tl_eq k).trans rfl
  have etl2 : tl (hI h2) t = a' * 13 + b' := (tl_eq tnew).trans rfl
  have hT : VT (hI h2) nt := by
    refine ⟨fun t' ht' => ?_, fun t' ht' => by rw [o66]; exact i.vt.2 t' ht'⟩
    by_cases e : t' = t
    · subst e; exact ⟨48, a', b', c, u, tnew⟩
    · have := i.vt.1 t' ht'
      simp only [o58, o61, o62, o63, o66, o40, o43, oM 59 t' (by omega) (Or.inr e), oM 60 t' (by omega) (Or.inr e), oM 64 t' (by omega) (Or.inr e), o10 t' _ (Or.inl e)]
      exact this
  have eu : (hI h (62, 0) t).toNatClampNeg = u := by rw [k.eu, cl_n (by omega)]
  have hV : VV (hI h2) nt := by
    intro p hp there
    rw [o40] at there
    have V := i.vv p hp there
    have lu : lvu (hI h2) nt p = lvu (hI h) nt p := by unfold lvu; simp only [o58, o62, o63]
    rw [lu]
    by_cases e : p = 48
    · subst e
      refine ⟨by rw [f5]; exact V.1, fun l hl => ?_⟩
      have s2 := sm_ex (f := fun t => if hI h (58, 0) t = nI 48 ∧ hI h (63, 0) t = 0 ∧ tl (hI h) t = l then (hI h (62, 0) t).toNatClampNeg else 0) (g := fun t => if hI h2 (58, 0) t = nI 48 ∧ hI h2 (63, 0) t = 0 ∧ tl (hI h2) t = l then (hI h2 (62, 0) t).toNatClampNeg else 0) (i := t) (fun q hq => by simp only [o58, o62, o63, otl q hq]) nt ht
      have s3 : lvl (hI h) nt 48 l + (if a' * 13 + b' = l then u else 0) = lvl (hI h2) nt 48 l + (if a * 13 + b = l then u else 0) := by
        simp only [o58, o63, o62, k.pool, live, etl, etl2, eu, true_and] at s2
        simpa [lvl, o58, o63, o62] using s2
      rw [f17 l]
      have lold : a * 13 + b < lls 48 := by show a * 13 + b < 169; omega
      have lnew : a' * 13 + b' < lls 48 := by show a' * 13 + b' < 169; omega
      by_cases e1 : l = a' * 13 + b'
      · subst e1
        rw [if_pos rfl]
        rw [if_pos rfl] at s3
        by_cases e2 : a' * 13 + b' = a * 13 + b
        · rw [if_pos e2, neg_c]
          rw [if_pos e2.symm] at s3
          rw [← e2, V.2 _ lnew]; congr 1; omega
        · rw [if_neg e2, V.2 _ lnew, nI_add]
          rw [if_neg (fun z => e2 z.symm)] at s3
          congr 1
      · rw [if_neg e1]
        rw [if_neg (fun z => e1 z.symm)] at s3
        by_cases e2 : l = a * 13 + b
        · subst e2
          rw [if_pos rfl, V.2 _ lold]
          rw [if_pos rfl] at s3
          rw [show lvl (hI h) nt 48 (a * 13 + b) = lvl (hI h2) nt 48 (a * 13 + b) + u by omega, nI_sub]
        · rw [if_neg e2, V.2 l hl]
          rw [if_neg (fun z => e2 z.symm)] at s3
          congr 1
    · have np : ¬ nI 48 = nI p := fun z => e ((nI_inj (by omega) (by omega)).mp z).symm
      have ll : ∀ l, lvl (hI h2) nt p l = lvl (hI h) nt p l := fun l => sm_congr nt (fun q hq => by
        by_cases eq : q = t
        · rw [eq, o58, k.pool, if_neg (fun z => np z.1), if_neg (fun z => np z.1)]
        · rw [o58, o62, o63, otl q eq])
      refine ⟨by rw [S.1 (5, p) 9 (by simp [KK, e]; omega)]; exact V.1, fun l hl => ?_⟩
      rw [ll, f17o p l e]; exact V.2 l hl
  have hD : VD (hI h2) nt := by
    intro p hp there l hl
    rw [o40] at there
    have D := i.vd p hp there l hl
    rw [S.1 (18, p) l (by simp [KK]; omega)]
    refine ⟨fun q hq c1 c2 c3 => ?_, fun z => D.2 (fun q hq c1 c2 c3 => ?_)⟩
    · rw [o66] at c1
      rw [o58] at c2
      by_cases e : q = t
      · subst e
        rcases k.cnt with y | y
        · exact absurd (uns.symm.trans y.2.1) (by decide)
        · exact absurd (y.1.symm.trans c1) (by decide)
      · rw [otl q e] at c3
        rw [o65]; exact D.1 q hq c1 c2 c3
    · by_cases e : q = t
      · subst e
        rcases k.cnt with y | y
        · exact absurd (uns.symm.trans y.2.1) (by decide)
        · exact absurd (y.1.symm.trans c1) (by decide)
      · exact z q hq (by rw [o66]; exact c1) (by rw [o58]; exact c2) (by rw [otl q e]; exact c3)
  clear hx f17 f17o f5 f10 fM e59 e60 e3 e4 tnew etl2 etl o10 oM
  rcases hs with rfl | rfl
  · exact i.updD [17] [((5, 48), 9), ((10, t), 3), ((56 + 3, 0), t)] S (vt := Or.inr hT) (vv := Or.inr hV) (vd := Or.inr hD)
  · exact i.updD [17] [((5, 48), 9), ((10, t), 4), ((56 + 4, 0), t)] S (vt := Or.inr hT) (vv := Or.inr hV) (vd := Or.inr hD)
end Lose
