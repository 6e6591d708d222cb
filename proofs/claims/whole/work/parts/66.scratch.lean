section Scratch
variable {L : Nat} {xs : Nat → Int32} {nr nt : Nat} {v h g : xH}
abbrev fo (I : xN → Nat → Int32) (j rk t : Nat) : Prop := ((I (58, 0) t).toNatClampNeg = 48 ∧ ((I (12, 0) 10 = nI j ∧ I (59, 0) t = nI rk) ∨ (I (12, 0) 11 = nI j ∧ I (60, 0) t = nI rk))) ∨ ((I (58, 0) t).toNatClampNeg ≠ 48 ∧ (I (58, 0) t).toNatClampNeg / 4 = j ∧ (I (59, 0) t = nI rk ∨ I (60, 0) t = nI rk ∨ I (61, 0) t = nI rk))
def subv (v : xH) (t slot sub : Nat) : xH := sI (subC v t slot (tl (hI v) t) ((if slot = 3 then sub else (hI v (59, 0) t).toNatClampNeg) * 13 + (if slot = 3 then (hI v (60, 0) t).toNatClampNeg else sub)) (hI v (62, 0) t) (nI sub)) (56 + slot, 0) t (nI sub)
theorem subv_eq {t a b c u slot sub : Nat} (k : TkF (hI v) t 48 a b c u) : subv v t slot sub = sI (subC v t slot (a * 13 + b) ((if slot = 3 then sub else a) * 13 + (if slot = 3 then b else sub)) (nI u) (nI sub)) (56 + slot, 0) t (nI sub) := by
  have ha := k.a12; have hb := k.b12
  unfold subv
  rw [tl_eq k, k.ea, k.eb, k.eu, cl_n (by omega), cl_n (by omega)]; rfl
theorem subv_sm {t slot sub : Nat} (hs : slot = 3 ∨ slot = 4) : Sm (KK [17, 5, 19, 10, 63, 48, 59, 60] []) v (subv v t slot sub) := by
  unfold subv subC
  exact ((((((Sm.rf _ v).si _ (Or.inl (by simp))).si _ (Or.inl (by simp))).si _ (Or.inl (by simp))).si _ (Or.inl (by simp))).si _ (Or.inl (by simp))).si _ (Or.inl (by rcases hs with rfl | rfl <;> simp))
/-- of which race a ticket's pool is -/
theorem p48 (i : Inv L xs nr nt v) {t p a b c u : Nat} (k : TkF (hI v) t p a b c u) (e : p = 48) : hI v (12, 0) 10 = nI (frp (hI v) 48) ∧ hI v (12, 0) 11 = nI (scp (hI v) 48) ∧ frp (hI v) 48 < scp (hI v) 48 := by
  subst e
  have z := (((i.vp 48 k.p49).1 k.there).2.2.1) rfl
  exact ⟨z.2.1, z.2.2, z.1⟩
theorem w_forC (i : Inv L xs nr nt v) (s : SC v h) {t p a b c u j rk : Nat} (ht : t < nt) (k : TkF (hI v) t p a b c u) (hj : j < nr) (hr : rk ≤ 12) {Q : Int32 → xH → Prop} (no : ¬ fo (hI v) j rk t → Q 0 h) (yes : fo (hI v) j rk t → Q 1 h) : p_Ti_isFor (10, t) (6, j) (nI rk) h Q := by
  have hnr := i.vc.1
  have hp := k.p49
  have r := tkr i ht k
  have pr := plr i hp k.there
  have pk := plk i hp k.there
  have rc := prc i hp k.there
  have w := k.cls
  have hk := kf_le (p := p)
  have n4 : nI (kf p) = (4 : Int32) ↔ kf p = 4 := nI_inj (b := 4) (by omega) (by omega)
  have rj : ∀ x, ((6, x) : xN) = (6, j) ↔ x = j := fun x => by simp
  unfold fo at no yes
  rw [k.pool, cl_n (by omega)] at no yes
  unfold p_Ti_isFor p_Ti_isFor_j30
  rw [s.2.2, r.2, pr.2.1, pr.2.2.1, s.i 5 p 1, pk.2.1, n4, s.i 10 t 3, s.i 10 t 4, s.i 10 t 5, w.2.2.1, w.2.2.2.1, w.2.2.2.2.1, rj, rj]
  have j6 : 2 ≤ ((6, j) : xN).1 := by simp
  refine ⟨rfl, rfl, fun k4 => ⟨by simp, j6, fun z => no (fun y => ?_), fun z => ⟨fun y => yes (Or.inr ?_), fun y => ⟨fun x => yes (Or.inr ?_), fun x => ⟨fun q => no (fun f => ?_), fun q => yes (Or.inr ?_)⟩⟩⟩⟩, fun k4 => ?_⟩
  · rcases y with y | y
    · exact k4 (rc.2.2.2.mp y.1)
    · apply z; unfold frp; rw [if_neg y.1]; exact y.2.1
  · have : p ≠ 48 := fun e => k4 (rc.2.2.2.mp e)
    refine ⟨this, ?_, Or.inl y⟩
    rw [← z]; unfold frp; rw [if_neg this]
  · have : p ≠ 48 := fun e => k4 (rc.2.2.2.mp e)
    refine ⟨this, ?_, Or.inr (Or.inl x)⟩
    rw [← z]; unfold frp; rw [if_neg this]
  · rcases f with f | f
    · exact k4 (rc.2.2.2.mp f.1)
    · exact f.2.2.elim y (fun f => f.elim x q)
  · have : p ≠ 48 := fun e => k4 (rc.2.2.2.mp e)
    refine ⟨this, ?_, Or.inr (Or.inr q)⟩
    rw [← z]; unfold frp; rw [if_neg this]
  · have e48 := rc.2.2.2.mpr k4
    have q48 := p48 i k e48
    have rl := rc.1; have rl2 := rc.2.1
    rw [e48] at rl rl2
    rw [q48.1, q48.2.1, nI_inj (by omega) (by omega), nI_inj (by omega) (by omega)] at no yes
    subst e48
    refine ⟨by simp, j6, fun z => ⟨rfl, rfl, by simp, j6, fun y => no (fun f => ?_), fun y => ⟨fun x => no (fun f => ?_), fun x => yes (Or.inl ⟨rfl, Or.inr ⟨y, x⟩⟩)⟩⟩, fun z => ⟨fun y => yes (Or.inl ⟨rfl, Or.inl ⟨z, y⟩⟩), fun y => ⟨rfl, rfl, by simp, j6, fun x => no (fun f => ?_), fun x => ⟨fun q => no (fun f => ?_), fun q => yes (Or.inl ⟨rfl, Or.inr ⟨x, q⟩⟩)⟩⟩⟩⟩
    · rcases f with f | f
      · exact f.2.elim (fun f => z f.1) (fun f => y f.1)
      · exact f.1 rfl
    · rcases f with f | f
      · exact f.2.elim (fun f => z f.1) (fun f => x f.2)
      · exact f.1 rfl
    · rcases f with f | f
      · exact f.2.elim (fun f => y f.2) (fun f => x f.1)
      · exact f.1 rfl
    · rcases f with f | f
      · exact f.2.elim (fun f => y f.2) (fun f => q f.2)
      · exact f.1 rfl
theorem w_isOutC (i : Inv L xs nr nt v) (s : SC v h) {j k : Nat} (hj : j < nr) (hk : k ≤ (hI v (36, 0) j).toNatClampNeg) {Q : Int32 → xH → Prop} (no : ¬ gnn (hI v) j k → Q 0 h) (yes : gnn (hI v) j k → Q 1 h) : p_R_isOut (6, j) (nI k) h Q := by
  obtain ⟨n, u, a1, a2, a3, a4, a5, -⟩ := VR_run i.vr hj
  rw [a5, cl_n (by omega)] at hk
  have sr := i.sr.1 j hj
  unfold p_R_isOut
  refine ⟨rfl, w_hasR i s hj (fun z => ⟨fun _ => no (fun y => z ⟨k, by have := y.1; omega, by rw [a5, cl_n (by omega)]; exact hk, rfl⟩), fun z => absurd rfl z⟩) (fun z => ⟨fun z => absurd z (by decide), fun _ => ?_⟩)⟩
  obtain ⟨k', k1, k2, k3⟩ := z
  rw [a5, cl_n (by omega)] at k2
  rw [nI_inj (by omega) (by omega)] at k3
  subst k3
  have vr := (i.vr.1 j hj).2.2.2 k (by omega)
  rw [s.2.2, s.2.1, sr.2.1, sr.2.2.2.2.2.2.2.1, cl_n (by omega), s.i 20 j, vr.1]
  exact ⟨rfl, in_n (by omega) (by omega), fun c => no (fun y => y.2 c), fun c => yes ⟨by omega, c⟩⟩
/-- the class: a runner is lost -/
theorem w_lose (i : Inv L xs nr nt v) (s : SC v h) {t p a b c u j rk sb : Nat} (ht : t < nt) (k : TkF (hI v) t p a b c u) (hj : j < nr) (e37 : hI v (37, 0) j = nI sb) (hsb : sb ≤ (hI v (36, 0) j).toNatClampNeg) (hfo : fo (hI v) j rk t) {Q : xH → Prop}
    (ref : ¬ (p = 48 ∧ sb ≠ 0 ∧ hI v (38, 0) (13 * j + sb) = 0) → Q (eC h t p (lin (kf p) a b c) 2 (nI u) 2 (skI (hI v) t)))
    (sub : p = 48 → sb ≠ 0 → hI v (38, 0) (13 * j + sb) = 0 → ∀ slot, slot = (if hI v (12, 0) 10 = nI j then 3 else 4) → Q (subC h t slot (a * 13 + b) ((if slot = 3 then sb else a) * 13 + (if slot = 3 then b else sb)) (nI u) (nI sb))) : p_Ti_loseRunner (10, t) (6, j) h Q := by
  have hnr := i.vc.1
  have hp := k.p49
  have r := tkr i ht k
  have pr := plr i hp k.there
  have pk := plk i hp k.there
  have rc := prc i hp k.there
  have w := k.cls
  have hk := kf_le (p := p)
  have r12 := rn12 i hj
  have n4 : nI (kf p) = (4 : Int32) ↔ kf p = 4 := nI_inj (b := 4) (by omega) (by omega)
  have e8 : hI v (6, j) 8 = nI sb := by
    obtain ⟨n, u', a1, a2, a3, a4, a5, a6, a7, -⟩ := VR_run i.vr hj
    rw [a6, ← a7]; exact e37
  have n0 : nI sb = (0 : Int32) ↔ sb = 0 := nI_inj (b := 0) (by omega) (by omega)
  have j29 : ¬ (p = 48 ∧ sb ≠ 0 ∧ hI v (38, 0) (13 * j + sb) = 0) → p_Ti_loseRunner_j29 (10, t) h Q := fun z => ⟨rfl, w_refund i s ht k (ref z)⟩
  unfold p_Ti_loseRunner
  rw [s.2.2, r.2, s.i 5 p 1, pk.2.1, n4, s.i 6 j 8, e8, n0]
  refine ⟨rfl, rfl, fun k4 => j29 (fun z => k4 (rc.2.2.2.mp z.1)), fun k4 => ⟨rfl, fun z => j29 (fun y => y.2.1 z), fun z => w_isOutC i s hj hsb (fun go => ⟨fun _ => w_line i s ht k ?_, fun y => absurd rfl y⟩) (fun go => ⟨fun y => absurd y (by decide), fun _ => j29 (fun y => go.2 y.2.2)⟩)⟩⟩
  have e48 := rc.2.2.2.mpr k4
  subst e48
  have q48 := p48 i k rfl
  have nout : hI v (38, 0) (13 * j + sb) = 0 := Classical.not_not.mp (fun y => go ⟨z, y⟩)
  have sub' := sub rfl z nout
  have ha := k.a12; have hb := k.b12; have hc := k.c12
  have rl := rc.1
  have ecj : hI v (12, 0) 10 = nI j ↔ frp (hI v) 48 = j := by rw [q48.1, nI_inj (by omega) (by omega)]
  have kk : kf 48 = 4 := rfl
  have l48 : lls 48 = 169 := rfl
  have lo : lin (kf 48) a b c = a * 13 + b := rfl
  rw [lo, s.2.2, r.2]
  refine ⟨rfl, ?_⟩
  unfold p_Po_addLive
  rw [s.2.2, s.2.1, pr.2.2.2.1, pr.2.2.2.2.2.2.1, l48, cl_n (by omega), s.i 10 t 2, w.2.1, k.eu]
  refine ⟨rfl, rfl, in_n (by omega) (by omega), in_n (by omega) (by omega), fun h5 q5 h14 q14 => ?_⟩
  have R14 : hR h14 = hR v := by rw [q14, q5]; exact s.2.2
  have S14 : hS h14 = hS v := by rw [q14, q5]; exact s.2.1
  have o14 : ∀ n j, n ≠ (17, 48) → n ≠ (5, 48) → hI h14 n j = hI h n j := fun n j h1 h2 => by rw [q14, hI_sI, if_neg (fun y => h2 y.1), q5, hI_sI, if_neg (fun y => h1 y.1)]
  have e5a : hI h5 (5, 48) 9 = hI h (5, 48) 9 := by rw [q5, hI_sI, if_neg (by simp)]
  rw [e5a] at q14
  have v81 : hI h14 (5, 48) 1 = nI 4 := by rw [q14, hI_sI, if_neg (by simp), q5, hI_sI, if_neg (by simp), s.i 5 48 1, pk.2.1]; rfl
  have j80 : ∀ slot, (slot = 3 ∨ slot = 4) → slot = (if frp (hI v) 48 = j then 3 else 4) → ∀ h18, h18 = sI h14 (10, t) slot (nI sb) → p_Ti_loseRunner_j80 (10, t) h18 Q := by
    intro slot hs es h18 q18
    have R18 : hR h18 = hR v := by rw [q18]; exact R14
    have S18 : hS h18 = hS v := by rw [q18]; exact S14
    have w3 : hI h18 (10, t) 3 = nI (if slot = 3 then sb else a) := by
      rw [q18, hI_sI]
      rcases hs with rfl | rfl
      · rw [if_pos ⟨rfl, rfl⟩, if_pos rfl]
      · rw [if_neg (by simp), if_neg (by omega), o14 _ _ (by simp) (by simp), s.i 10 t 3, w.2.2.1, k.ea]
    have w4 : hI h18 (10, t) 4 = nI (if slot = 3 then b else sb) := by
      rw [q18, hI_sI]
      rcases hs with rfl | rfl
      · rw [if_neg (by simp), if_pos rfl, o14 _ _ (by simp) (by simp), s.i 10 t 4, w.2.2.2.1, k.eb]
      · rw [if_pos ⟨rfl, rfl⟩, if_neg (by omega)]
    have w5 : hI h18 (10, t) 5 = nI c := by
      rw [q18, hI_sI, if_neg (by simp; omega), o14 _ _ (by simp) (by simp), s.i 10 t 5, w.2.2.2.2.1, k.ec]
    have w2 : hI h18 (10, t) 2 = nI u := by
      rw [q18, hI_sI, if_neg (by simp; omega), o14 _ _ (by simp) (by simp), s.i 10 t 2, w.2.1, k.eu]
    have fin := sub' slot (by
      rw [es]
      by_cases e : frp (hI v) 48 = j
      · rw [if_pos e, if_pos (ecj.mpr e)]
      · rw [if_neg e, if_neg (fun y => e (ecj.mp y))])
    have ha' : (if slot = 3 then sb else a) ≤ 12 := by split <;> omega
    have hb' : (if slot = 3 then b else sb) ≤ 12 := by split <;> omega
    generalize (if slot = 3 then sb else a) = a' at *
    generalize (if slot = 3 then b else sb) = b' at *
    unfold p_Ti_loseRunner_j80 p_Ti_line
    rw [R18, r.2, w3, w4, w5]
    refine ⟨rfl, rfl, rfl, w_lineOf (k := 4) rfl (by omega) (by rw [q18, hI_sI, if_neg (by simp)]; exact v81) ha' hb' ⟨rfl, ?_⟩⟩
    have ln : lin2 4 a' b' c = a' * 13 + b' := rfl
    unfold p_Po_addLive
    rw [ln, R18, S18, pr.2.2.2.1, pr.2.2.2.2.2.2.1, l48, cl_n (by omega), w2]
    refine ⟨rfl, rfl, in_n (by omega) (by omega), in_n (by omega) (by omega), fun h9 q9 h10 q10 => ?_⟩
    have e : h10 = subC h t slot (a * 13 + b) (a' * 13 + b') (nI u) (nI sb) := by
      have x17 : hI h18 (17, 48) (a' * 13 + b') = if a' * 13 + b' = a * 13 + b then hI h (17, 48) (a * 13 + b) + -(nI u) else hI h (17, 48) (a' * 13 + b') := by
        rw [q18, hI_sI, if_neg (by simp), q14, hI_sI, if_neg (by simp), q5, hI_sI]
        by_cases e : a' * 13 + b' = a * 13 + b
        · rw [if_pos ⟨rfl, e⟩, if_pos e]
        · rw [if_neg (fun y => e y.2), if_neg e]
      have x9 : hI h9 (5, 48) 9 = hI h (5, 48) 9 + -(nI u) := by
        rw [q9, hI_sI, if_neg (by simp), q18, hI_sI, if_neg (by simp), q14, hI_sI, if_pos ⟨rfl, rfl⟩]
      rw [q10, x9, q9, x17, q18, q14, q5]; rfl
    rw [e]; exact fin
  show _ ∧ _
  rw [R14, r.2, pr.2.1, o14 _ _ (by simp) (by simp), s.i 6 j 8, e8]
  have rj : ((6, frp (hI v) 48) : xN) = (6, j) ↔ frp (hI v) 48 = j := by simp
  rw [rj]
  exact ⟨rfl, by simp, fun y h18 q18 => j80 4 (Or.inr rfl) (by rw [if_neg y]) h18 q18, fun y h18 q18 => j80 3 (Or.inl rfl) (by rw [if_pos y]) h18 q18⟩
/-- the model: one ticket -/
theorem w_mscr (i : Inv L xs nr nt v) (s : SM v g) {t p a b c u j rk sb : Nat} {hs : Int32} {has : Prop} (ht : t < nt) (k : TkF (hI v) t p a b c u) (hj : j < nr) (hr : rk ≤ 12) (hh : hs = 0 ↔ ¬ has) {K : Int32 → xH → Prop} {Q : Int32 → xH → Prop} {f : Nat} {cn : Int32}
    (no : ¬ (hI v (63, 0) t = 0 ∧ fo (hI v) j rk t) → p_M_scratch_L78 (12, 0) (nI j) (nI rk) (nI sb) hs K Q f cn (nI (t + 1)) g)
    (ref : hI v (63, 0) t = 0 → fo (hI v) j rk t → ¬ (p = 48 ∧ has) → p_M_scratch_L78 (12, 0) (nI j) (nI rk) (nI sb) hs K Q f (cn + 1) (nI (t + 1)) (eM g t p 2 2 (skI (hI v) t)))
    (sub : hI v (63, 0) t = 0 → fo (hI v) j rk t → p = 48 → has → ∀ slot, slot = (if hI v (12, 0) 10 = nI j then 3 else 4) → p_M_scratch_L78 (12, 0) (nI j) (nI rk) (nI sb) hs K Q f (cn + 1) (nI (t + 1)) (sI g (56 + slot, 0) t (nI sb))) : p_M_scratch_L78 (12, 0) (nI j) (nI rk) (nI sb) hs K Q (f + 1) cn (nI t) g := by
  have hnr := i.vc.1
  have hnt := i.vc.2.1
  have x23 := i.vc.2.2.2.2.2
  have hp := k.p49
  have m := SM.m i s
  unfold p_M_scratch_L78
  rw [s.i 12 23, x23, mR29 m, mS29 m, mR24 m, mS24 m, mR25 m, mS25 m, mR26 m, mS26 m, mR27 m, mS27 m, cl_n (by omega), s.i 63, s.i 58, s.i 59, s.i 60, s.i 61, k.pool, s.i 12 10]
  refine ⟨rfl, fun z => ?_, fun _ => ⟨rfl, in_n (by omega) (by omega), fun live => ⟨rfl, in_n (by omega) (by omega), fun v24 e24 => ?_⟩, fun live x hx => ?_⟩⟩
  · rw [le_nn (by omega) (by omega)] at z; omega
  rotate_left
  · rw [hx, nI_1]; exact no (fun y => live y.1)
  subst e24
  have n48 : nI p = (48 : Int32) ↔ p = 48 := nI_inj (b := 48) (by omega) (by omega)
  have d4 : nI p / (4 : Int32) = nI (p / 4) := pk_div (a := p) (d := 4) (by omega) (by omega) (by omega)
  rw [n48, d4, nI_inj (by omega) (by omega)]
  have nfo : ∀ (P : Prop), (fo (hI v) j rk t → P → False) → P → p_M_scratch_L78 (12, 0) (nI j) (nI rk) (nI sb) hs K Q f cn (nI (t + 1)) g := fun P hP p => no (fun y => hP y.2 p)
  have efo : fo (hI v) j rk t ↔ ((p = 48 ∧ ((hI v (12, 0) 10 = nI j ∧ hI v (59, 0) t = nI rk) ∨ (hI v (12, 0) 11 = nI j ∧ hI v (60, 0) t = nI rk))) ∨ (p ≠ 48 ∧ p / 4 = j ∧ (hI v (59, 0) t = nI rk ∨ hI v (60, 0) t = nI rk ∨ hI v (61, 0) t = nI rk))) := by
    unfold fo; rw [k.pool, cl_n (by omega)]
  refine ⟨fun e48 => ?_, fun e48 => ?_⟩
  · have j265 : p / 4 = j → (hI v (59, 0) t = nI rk ∨ hI v (60, 0) t = nI rk ∨ hI v (61, 0) t = nI rk) → p_M_scratch_j265 (12, 0) (nI j) (nI rk) (nI sb) hs cn (nI t) (p_M_scratch_L78 (12, 0) (nI j) (nI rk) (nI sb) hs K Q f) g Q := fun e y => by
      unfold p_M_scratch_j265
      refine fun w hw => ⟨rfl, w_mrefund i s ht k (fun x hx => ?_)⟩
      rw [hw, hx, nI_1]
      exact ref live (efo.mpr (Or.inr ⟨e48, e, y⟩)) (fun z => e48 z.1)
    refine ⟨fun z x hx => ?_, fun z => ⟨rfl, in_n (by omega) (by omega), fun y => j265 z (Or.inl y), fun y => ⟨rfl, in_n (by omega) (by omega), fun x => j265 z (Or.inr (Or.inl x)), fun x => ⟨rfl, in_n (by omega) (by omega), fun w q hq => ?_, fun w => j265 z (Or.inr (Or.inr w))⟩⟩⟩⟩
    · rw [hx, nI_1]
      exact no (fun y => ((efo.mp y.2).elim (fun y => e48 y.1) (fun y => z y.2.1)))
    · rw [hq, nI_1]
      exact no (fun f => ((efo.mp f.2).elim (fun q => e48 q.1) (fun q => q.2.2.elim y (fun q => q.elim x w))))
  · have q48 := p48 i k e48
    have rc := prc i hp k.there
    have rl := rc.1; have rl2 := rc.2.1
    rw [e48] at rl rl2
    have j178 : fo (hI v) j rk t → ∀ l9 : Int32, (l9 = 0 ↔ ¬ (hI v (12, 0) 10 = nI j ∧ hI v (59, 0) t = nI rk)) → p_M_scratch_j178 (12, 0) (nI j) (nI rk) (nI sb) hs cn (nI t) l9 (p_M_scratch_L78 (12, 0) (nI j) (nI rk) (nI sb) hs K Q f) g Q := fun hf l9 h9 => by
      unfold p_M_scratch_j178
      intro v51 e51
      have one : hI v (12, 0) 10 = nI j → hI v (59, 0) t = nI rk := fun e => by
        rcases (efo.mp hf) with y | y
        · rcases y.2 with y | y
          · exact y.2
          · have e1 := e; have e2 := y.1
            rw [q48.1, nI_inj (by omega) (by omega)] at e1
            rw [q48.2.1, nI_inj (by omega) (by omega)] at e2
            omega
        · exact absurd e48 y.1
      rw [mR25 m, mS25 m, mR26 m, mS26 m, cl_n (by omega)]
      refine ⟨fun y => ⟨fun z => ⟨rfl, rfl, in_n (by omega) (by omega), fun h58 q58 x hx => ?_⟩, fun z => ⟨rfl, rfl, in_n (by omega) (by omega), fun h58 q58 x hx => ?_⟩⟩, fun y => ⟨rfl, w_mrefund i s ht k (fun x hx => ?_)⟩⟩
      · rw [hx, nI_1, e51, q58]
        have ne : ¬ hI v (12, 0) 10 = nI j := fun e => (h9.mp z) ⟨e, one e⟩
        exact sub live hf e48 (Classical.not_not.mp (fun q => y (hh.mpr q))) 4 (by rw [if_neg ne])
      · rw [hx, nI_1, e51, q58]
        have e : hI v (12, 0) 10 = nI j := (Classical.not_not.mp (fun q => z (h9.mpr q))).1
        exact sub live hf e48 (Classical.not_not.mp (fun q => y (hh.mpr q))) 3 (by rw [if_pos e])
      · rw [hx, nI_1, e51]
        exact ref live hf (fun z => (hh.mp y) z.2)
    have j166 : ∀ s0 l9 : Int32, (l9 = 0 ↔ ¬ (hI v (12, 0) 10 = nI j ∧ hI v (59, 0) t = nI rk)) → (s0 = 0 ↔ ¬ (hI v (12, 0) 11 = nI j ∧ hI v (60, 0) t = nI rk)) → p_M_scratch_j166 s0 (12, 0) (nI j) (nI rk) (nI sb) hs cn (nI t) l9 (p_M_scratch_L78 (12, 0) (nI j) (nI rk) (nI sb) hs K Q f) g Q := fun s0 l9 h9 h0 => by
      unfold p_M_scratch_j166
      refine ⟨fun z => j178 (efo.mpr (Or.inl ⟨e48, Or.inl (Classical.not_not.mp (fun q => z (h9.mpr q)))⟩)) l9 h9, fun z => ⟨fun y x hx => ?_, fun y => j178 (efo.mpr (Or.inl ⟨e48, Or.inr (Classical.not_not.mp (fun q => y (h0.mpr q)))⟩)) l9 h9⟩⟩
      rw [hx, nI_1]
      exact no (fun f => (efo.mp f.2).elim (fun q => q.2.elim (h9.mp z) (h0.mp y)) (fun q => q.1 e48))
    have j140 : ∀ l9 : Int32, (l9 = 0 ↔ ¬ (hI v (12, 0) 10 = nI j ∧ hI v (59, 0) t = nI rk)) → p_M_scratch_j140 l9 (12, 0) (nI j) (nI rk) (nI sb) hs cn (nI t) (p_M_scratch_L78 (12, 0) (nI j) (nI rk) (nI sb) hs K Q f) g Q := fun l9 h9 => by
      unfold p_M_scratch_j140
      rw [s.i 12 11, mR26 m, mS26 m, cl_n (by omega), s.i 60]
      exact ⟨rfl, fun z => j166 0 l9 h9 ⟨fun _ y => z y.1, fun _ => rfl⟩, fun z => ⟨rfl, in_n (by omega) (by omega), fun y => j166 0 l9 h9 ⟨fun _ x => y x.2, fun _ => rfl⟩, fun y => j166 1 l9 h9 ⟨fun x => absurd x (by decide), fun x => absurd ⟨z, y⟩ x⟩⟩⟩
    exact ⟨fun z => j140 0 ⟨fun _ y => z y.1, fun _ => rfl⟩, fun z => ⟨rfl, in_n (by omega) (by omega), fun y => j140 0 ⟨fun _ x => y x.2, fun _ => rfl⟩, fun y => j140 1 ⟨fun x => absurd x (by decide), fun x => absurd ⟨z, y⟩ x⟩⟩⟩
end Scratch
