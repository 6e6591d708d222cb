section NewPool
variable {L : Nat} {xs : Nat → Int32} {nr nt : Nat} {v h g : xH}
/-- the names of one pool -/
def nP (p : Nat) (n : xN) : Prop := n.2 = p ∧ (n.1 = 5 ∨ n.1 = 17 ∨ n.1 = 18 ∨ n.1 = 19)
theorem nP_ne {p : Nat} {n : xN} (hn : ¬ nP p n) : n ≠ (5, p) ∧ n ≠ (17, p) ∧ n ≠ (18, p) ∧ n ≠ (19, p) := by
  refine ⟨?_, ?_, ?_, ?_⟩ <;> (rintro rfl; exact hn (by simp [nP]))
def llk (k : Nat) : Nat := match k with
  | 0 => 13
  | 1 => 13
  | 3 => 2197
  | _ => 169
theorem w_Poinit {p k r1 r2 : Nat} {x d u : Int32} (hk : k ≤ 4) (z17 : hS h (17, p) = 0) (z18 : hS h (18, p) = 0) (z19 : hS h (19, p) = 0) {Q : xH → Prop}
    (q : ∀ h', (∀ n, ¬ nP p n → (∀ j, hI h' n j = hI h n j) ∧ (∀ j, hR h' n j = hR h n j) ∧ hS h' n = hS h n) →
      hR h' (5, p) 2 = (6, r1) ∧ hR h' (5, p) 3 = (6, r2) ∧ hR h' (5, p) 6 = (17, p) ∧ hR h' (5, p) 7 = (18, p) ∧ hR h' (5, p) 8 = (19, p) ∧ hS h' (17, p) = llk k + 1 ∧ hS h' (18, p) = llk k + 1 ∧ hS h' (19, p) = 12 →
      hI h' (5, p) 0 = x ∧ hI h' (5, p) 1 = nI k ∧ hI h' (5, p) 4 = d ∧ hI h' (5, p) 5 = u ∧ hI h' (5, p) 9 = hI h (5, p) 9 → (∀ j, hI h' (17, p) j = 0 ∧ hI h' (18, p) j = 0 ∧ hI h' (19, p) j = 0) → Q h') : p_Po_init (5, p) x (nI k) (6, r1) (6, r2) d u h Q := by
  unfold p_Po_init
  refine ⟨Nat.le_of_ble_eq_true rfl, z19, fun h3 q3 => ⟨rfl, fun h6 q6 h8 q8 h10 q10 => ⟨by simp, fun h13 q13 => ⟨by simp, fun h16 q16 h18 q18 h20 q20 => ?_⟩⟩⟩⟩
  have fin : ∀ w : Int32, w = nI (llk k) → p_Po_init_j82 1 w (5, p) 1 h20 Q := by
    intro w hw
    have l3 : llk k ≤ 2197 := by unfold llk; split <;> omega
    unfold p_Po_init_j82
    intro v26 h26
    have e26 : v26 = nI (llk k) := by rw [h26, hw, Int32.mul_one]
    rw [e26, ti_n (by omega), cl_n (by omega)]
    refine ⟨⟨rfl, by omega⟩, ?_, by omega, fun h31 q31 => ⟨rfl, fun h34 q34 => ⟨⟨rfl, by omega⟩, ?_, by omega, fun h39 q39 h41 q41 => ?_⟩⟩⟩
    · rw [q20, q18, q16, q13, q10, q8, q6, q3]; simp [hS_sR, hS_nW, hS_sI, z17]
    · rw [q34, q31, q20, q18, q16, q13, q10, q8, q6, q3]; simp [hS_sR, hS_nW, hS_sI, z18]
    · refine q h41 (fun n hn => ?_) ?_ ?_ (fun j => ?_)
      · obtain ⟨n1, n2, n3, n4⟩ := nP_ne hn
        rw [q41, q39, q34, q31, q20, q18, q16, q13, q10, q8, q6, q3]
        simp [hS_sR, hS_nW, hS_sI, hR_sR, hR_nW, hR_sI, hI_sR, hI_nW, hI_sI, n1, n2, n3, n4]
      all_goals
        rw [q41, q39, q34, q31, q20, q18, q16, q13, q10, q8, q6, q3]
        simp [hS_sR, hS_nW, hS_sI, hR_sR, hR_nW, hR_sI, hI_sR, hI_nW, hI_sI]
  have fin3 : k = 3 → p_Po_init_j82 13 169 (5, p) 1 h20 Q := by
    intro k3
    unfold p_Po_init_j82
    intro v26 h26
    have e26 : v26 = nI 2197 := by rw [h26]; decide
    have lk : llk k = 2197 := by rw [k3]; rfl
    rw [lk] at q
    rw [e26, ti_n (by omega), cl_n (by omega)]
    refine ⟨⟨rfl, by omega⟩, ?_, by omega, fun h31 q31 => ⟨rfl, fun h34 q34 => ⟨⟨rfl, by omega⟩, ?_, by omega, fun h39 q39 h41 q41 => ?_⟩⟩⟩
    · rw [q20, q18, q16, q13, q10, q8, q6, q3]; simp [hS_sR, hS_nW, hS_sI, z17]
    · rw [q34, q31, q20, q18, q16, q13, q10, q8, q6, q3]; simp [hS_sR, hS_nW, hS_sI, z18]
    · refine q h41 (fun n hn => ?_) ?_ ?_ (fun j => ?_)
      · obtain ⟨n1, n2, n3, n4⟩ := nP_ne hn
        rw [q41, q39, q34, q31, q20, q18, q16, q13, q10, q8, q6, q3]
        simp [hS_sR, hS_nW, hS_sI, hR_sR, hR_nW, hR_sI, hI_sR, hI_nW, hI_sI, n1, n2, n3, n4]
      all_goals
        rw [q41, q39, q34, q31, q20, q18, q16, q13, q10, q8, q6, q3]
        simp [hS_sR, hS_nW, hS_sI, hR_sR, hR_nW, hR_sI, hI_sR, hI_nW, hI_sI]
  unfold p_Po_init_j66
  clear q3 q6 q8 q10 q13 q16 q18 q20
  rcases k5 hk with rfl | rfl | rfl | rfl | rfl
  · exact ⟨fun _ w hw => ⟨fun _ => fin w (by rw [hw]; decide), fun z => absurd z (by decide)⟩, fun z => absurd rfl z⟩
  · exact ⟨fun z => absurd z (by decide), fun _ => ⟨fun z => absurd rfl z, fun _ w hw => ⟨fun _ => fin w (by rw [hw]; decide), fun z => absurd z (by decide)⟩⟩⟩
  · exact ⟨fun z => absurd z (by decide), fun _ => ⟨fun _ w hw => ⟨fun _ => fin w (by rw [hw]; decide), fun z => absurd z (by decide)⟩, fun z => absurd z (by decide)⟩⟩
  · exact ⟨fun z => absurd z (by decide), fun _ => ⟨fun _ w hw => ⟨fun z => absurd rfl z, fun _ => by rw [hw]; exact fin3 rfl⟩, fun z => absurd z (by decide)⟩⟩
  · exact ⟨fun z => absurd z (by decide), fun _ => ⟨fun _ w hw => ⟨fun _ => fin w (by rw [hw]; decide), fun z => absurd z (by decide)⟩, fun z => absurd z (by decide)⟩⟩
theorem llk_kf {p : Nat} : llk (kf p) = lls p := rfl
theorem Inv.newp (i : Inv L xs nr nt h) {p : Nat} (hp : p < 49) (c : hI h (40, 0) p = 0) {r1 r2 d u : Nat} (hd : d ≤ 500) (hu1 : 10 ≤ u) (hu2 : u ≤ 1000) (hr1 : r1 < nr) (hr2 : r2 < nr) (s1 : hI h (35, 0) r1 = 0) (hpr : p ≠ 48 → r1 = p / 4 ∧ r2 = p / 4) (h48 : p = 48 → r1 < r2) {h2 : xH}
    (oI : ∀ n j, ¬ nP p n → ¬ KL [((40, 0), p), ((41, 0), p), ((42, 0), p)] n j → ¬ (p = 48 ∧ n = (12, 0) ∧ (j = 10 ∨ j = 11)) → hI h2 n j = hI h n j)
    (oR : ∀ n j, ¬ nP p n → ¬ (n = (28, 0) ∧ j = p) → hR h2 n j = hR h n j) (oS : ∀ n, ¬ nP p n → hS h2 n = hS h n)
    (e28 : hR h2 (28, 0) p = (5, p)) (e40 : hI h2 (40, 0) p = 1) (e41 : hI h2 (41, 0) p = nI d) (e42 : hI h2 (42, 0) p = nI u) (e12 : p = 48 → hI h2 (12, 0) 10 = nI r1 ∧ hI h2 (12, 0) 11 = nI r2)
    (nw : hR h2 (5, p) 2 = (6, r1) ∧ hR h2 (5, p) 3 = (6, r2) ∧ hR h2 (5, p) 6 = (17, p) ∧ hR h2 (5, p) 7 = (18, p) ∧ hR h2 (5, p) 8 = (19, p) ∧ hS h2 (17, p) = llk (kf p) + 1 ∧ hS h2 (18, p) = llk (kf p) + 1 ∧ hS h2 (19, p) = 12)
    (nv : hI h2 (5, p) 0 = nI p ∧ hI h2 (5, p) 1 = nI (kf p) ∧ hI h2 (5, p) 4 = nI d ∧ hI h2 (5, p) 5 = nI u ∧ hI h2 (5, p) 9 = 0) (nz' : ∀ j, hI h2 (17, p) j = 0 ∧ hI h2 (18, p) j = 0 ∧ hI h2 (19, p) j = 0) : Inv L xs nr nt h2 := by
  have hnr := i.vc.1
  have K : ∀ n j, ¬ KK [5, 17, 18, 19] [((40, 0), p), ((41, 0), p), ((42, 0), p), ((12, 0), 10), ((12, 0), 11)] n j → hI h2 n j = hI h n j := fun n j hk => oI n j (fun z => hk (Or.inl (by have := z.2; simp; omega))) (fun z => hk (Or.inr (by unfold KL at z; simp at z ⊢; rcases z with z | z | z <;> simp [z]))) (fun z => hk (Or.inr (by obtain ⟨-, z1, z2⟩ := z; rw [z1]; rcases z2 with rfl | rfl <;> simp)))
  have np : ∀ (n : xN), (n.1 ≠ 5 ∧ n.1 ≠ 17 ∧ n.1 ≠ 18 ∧ n.1 ≠ 19) ∨ n.2 ≠ p → ¬ nP p n := fun n hn z => by have z1 := z.1; have z2 := z.2; omega
  have o12 : p ≠ 48 → ∀ j, hI h2 (12, 0) j = hI h (12, 0) j := fun e j => oI _ _ (np _ (Or.inl (by simp))) (by simp [KL]) (fun z => e z.1)
  have oM : ∀ k j, 34 ≤ k → (k ≠ 40 ∧ k ≠ 41 ∧ k ≠ 42 ∨ j ≠ p) → hI h2 (k, 0) j = hI h (k, 0) j := fun k j hk hj => oI _ _ (np _ (Or.inl (by simp; omega))) (by simp [KL]; omega) (fun z => by have := congrArg Prod.fst z.2.1; simp at this; omega)
  have of' : ∀ q, q ≠ p → frp (hI h2) q = frp (hI h) q := fun q hq => by
    unfold frp
    by_cases e : q = 48
    · rw [if_pos e, if_pos e, o12 (by omega)]
    · rw [if_neg e, if_neg e]
  have oc : ∀ q, q ≠ p → scp (hI h2) q = scp (hI h) q := fun q hq => by
    unfold scp
    by_cases e : q = 48
    · rw [if_pos e, if_pos e, o12 (by omega)]
    · rw [if_neg e, if_neg e]
  have ef : frp (hI h2) p = r1 := by
    unfold frp
    by_cases e : p = 48
    · rw [if_pos e, (e12 e).1, cl_n (by omega)]
    · rw [if_neg e, (hpr e).1]
  have ec : scp (hI h2) p = r2 := by
    unfold scp
    by_cases e : p = 48
    · rw [if_pos e, (e12 e).2, cl_n (by omega)]
    · rw [if_neg e, (hpr e).2]
  have tp : ∀ t, t < nt → ∃ p0 a b cc u, TkF (hI h) t p0 a b cc u ∧ p0 ≠ p := fun t ht => by
    obtain ⟨p0, a, b, cc, u, k⟩ := tkf i ht
    exact ⟨p0, a, b, cc, u, k, fun e => by have := k.there; rw [e, c] at this; exact absurd this (by decide)⟩
  have o58 : ∀ t, hI h2 (58, 0) t = hI h (58, 0) t := fun t => oM 58 t (by omega) (by omega)
  have o59 : ∀ t, hI h2 (59, 0) t = hI h (59, 0) t := fun t => oM 59 t (by omega) (by omega)
  have o60 : ∀ t, hI h2 (60, 0) t = hI h (60, 0) t := fun t => oM 60 t (by omega) (by omega)
  have o61 : ∀ t, hI h2 (61, 0) t = hI h (61, 0) t := fun t => oM 61 t (by omega) (by omega)
  have o62 : ∀ t, hI h2 (62, 0) t = hI h (62, 0) t := fun t => oM 62 t (by omega) (by omega)
  have o63 : ∀ t, hI h2 (63, 0) t = hI h (63, 0) t := fun t => oM 63 t (by omega) (by omega)
  have o43 : ∀ t, hI h2 (43, 0) t = hI h (43, 0) t := fun t => oM 43 t (by omega) (by omega)
  have o65 : ∀ t, hI h2 (65, 0) t = hI h (65, 0) t := fun t => oM 65 t (by omega) (by omega)
  have o66 : ∀ t, hI h2 (66, 0) t = hI h (66, 0) t := fun t => oM 66 t (by omega) (by omega)
  have otl : ∀ t, tl (hI h2) t = tl (hI h) t := fun t => by unfold tl; rw [o58, o59, o60, o61]
  have olu : ∀ q, lvu (hI h2) nt q = lvu (hI h) nt q := fun q => by unfold lvu; simp only [o58, o62, o63]
  have oll : ∀ q l, lvl (hI h2) nt q l = lvl (hI h) nt q l := fun q l => by unfold lvl; simp only [o58, o62, o63, otl]
  have nt0 : ∀ t, t < nt → ¬ hI h (58, 0) t = nI p := fun t ht e => by
    obtain ⟨p0, a, b, cc, u, k, hne⟩ := tp t ht
    have := k.p49
    rw [k.pool, nI_inj (by omega) (by omega)] at e
    exact hne e
  have sm0 : ∀ (f : Nat → Nat) n, (∀ t, t < n → f t = 0) → sm f n = 0 := fun f n e => by
    induction n with
    | zero => rfl
    | succ n ih => unfold sm; rw [ih (fun t ht => e t (by omega)), e n (by omega)]
  have pv := i.vp p hp
  refine ⟨fr2 Sh_rs (S := hS h) (R := hR h) (fun n hn => oS n (fun z => ?_)) (fun n j hn => oR n j (fun z => ?_) (fun z => ?_)) i.1, fr2 (C := fun S R => ShR S R nr) ShR_rs (S := hS h) (R := hR h) (fun n hn => oS n (fun z => ?_)) (fun n j hn => oR n j (fun z => ?_) (fun z => ?_)) i.sr, fun q hq => ?_, fr3 (C := fun S R I => ShT S R I nt) ShT_rs3 (S := hS h) (R := hR h) (I := hI h) (fun n hn => oS n (fun z => ?_)) (fun n j hn => oR n j (fun z => ?_) (fun z => ?_)) (fun n j hn => ?_) i.st, ⟨by rw [oS _ (np _ (Or.inl (by simp)))]; exact i.vs.1, fun j => by rw [K _ _ (by simp [KK])]; exact i.vs.2 j⟩, (fr1 (C := fun I => VC I nr nt) (c := rdVC) (fun _ => rfl) (KK_fr ⟨by repeat (first | exact List.forall_mem_nil _ | refine List.forall_mem_cons.mpr ⟨fun _ _ => rfl, ?_⟩), rfl⟩ K) i.vc), (fr1 (C := fun I => VR I nr) (c := rdVR) (fun _ => rfl) (KK_fr ⟨by repeat (first | exact List.forall_mem_nil _ | refine List.forall_mem_cons.mpr ⟨fun _ _ => rfl, ?_⟩), rfl⟩ K) i.vr), (fr1 (C := fun I => VL I nr) (c := rdVL) (fun _ => rfl) (KK_fr ⟨by repeat (first | exact List.forall_mem_nil _ | refine List.forall_mem_cons.mpr ⟨fun _ _ => rfl, ?_⟩), rfl⟩ K) i.vl), (fr1 (C := fun I => VF I nr) (c := rdVF) (fun _ => rfl) (KK_fr ⟨by repeat (first | exact List.forall_mem_nil _ | refine List.forall_mem_cons.mpr ⟨fun _ _ => rfl, ?_⟩), rfl⟩ K) i.vf), fun q hq => ?_, ⟨fun t ht => ?_, fun t ht => ?_⟩, fun q hq there => ?_, fun q hq there l hl => ?_, ?_, (fr1 (C := fun I => VW I nt) (c := rdVW) (fun _ => rfl) (KK_fr ⟨by repeat (first | exact List.forall_mem_nil _ | refine List.forall_mem_cons.mpr ⟨fun _ _ => rfl, ?_⟩), rfl⟩ K) i.vw), (fr1 (C := fun I => VX I nt) (c := rdVX) (fun _ => rfl) (KK_fr ⟨by repeat (first | exact List.forall_mem_nil _ | refine List.forall_mem_cons.mpr ⟨fun _ _ => rfl, ?_⟩), rfl⟩ K) i.vx), (fr1 (C := VB) (c := rdVB) (fun _ => rfl) (KK_fr ⟨by repeat (first | exact List.forall_mem_nil _ | refine List.forall_mem_cons.mpr ⟨fun _ _ => rfl, ?_⟩), rfl⟩ K) i.vb), (fr1 (C := VN) (c := rdVN) (fun _ => rfl) (KK_fr ⟨by repeat (first | exact List.forall_mem_nil _ | refine List.forall_mem_cons.mpr ⟨fun _ _ => rfl, ?_⟩), rfl⟩ K) i.vn), mkq fun q hq there => ?_⟩
  · have := z.2; rcases this with z | z | z | z <;> (unfold shS at hn; rw [z] at hn; simp at hn)
  · have := z.2; rcases this with z | z | z | z <;> (unfold shR at hn; rw [z] at hn; simp at hn)
  · rw [z.1] at hn; cases hn
  · have := z.2; rcases this with z | z | z | z <;> (unfold srS at hn; rw [z] at hn; simp at hn)
  · have := z.2; rcases this with z | z | z | z <;> (unfold srR at hn; rw [z] at hn; simp at hn)
  · rw [z.1] at hn; cases hn
  · by_cases e : q = p
    · subst e
      left
      rw [ef, ec]
      exact ⟨e40, e28, nw⟩
    · rw [oM 40 q (by omega) (Or.inr e), oR (28, 0) q (np _ (Or.inl (by simp))) (fun z => e z.2), of' q e, oc q e, oR (5, q) 2 (np _ (Or.inr e)) (by simp), oR (5, q) 3 (np _ (Or.inr e)) (by simp), oR (5, q) 6 (np _ (Or.inr e)) (by simp), oR (5, q) 7 (np _ (Or.inr e)) (by simp), oR (5, q) 8 (np _ (Or.inr e)) (by simp), oS (17, q) (np _ (Or.inr e)), oS (18, q) (np _ (Or.inr e)), oS (19, q) (np _ (Or.inr e)), oS (5, q) (np _ (Or.inr e))]
      exact i.sp q hq
  · have := z.2; rcases this with z | z | z | z <;> (unfold stS at hn; rw [z] at hn; simp at hn)
  · have := z.2; rcases this with z | z | z | z <;> (unfold stR at hn; rw [z] at hn; simp at hn)
  · rw [z.1] at hn; cases hn
  · refine K n j (fun z => ?_)
    rcases z with z | z
    · simp at z; rcases z with z | z | z | z <;> (unfold rdShT at hn; rw [z] at hn; simp at hn)
    · simp at z; rcases z with z | z | z | z | z <;> (rw [z.1] at hn; cases hn)
  · by_cases e : q = p
    · subst e
      refine ⟨fun _ => ?_, fun z => by rw [e40] at z; exact absurd z (by decide)⟩
      have z := pv.2 c
      rw [ef, ec, nv.1, nv.2.1, nv.2.2.1, nv.2.2.2.1, e41, e42]
      refine ⟨hr1, hr2, fun e => ⟨h48 e, e12 e⟩, rfl, rfl, rfl, rfl, ⟨d, hd, rfl⟩, ⟨u, hu1, hu2, rfl⟩, ?_, ?_⟩
      · refine ⟨?_, ?_, ?_, ?_, ?_, ?_, ?_, ?_, ?_, ?_⟩
        · rw [(nz' 0).2.2, oM 46 q (by omega) (by omega)]; exact z.2.1.symm
        · rw [(nz' 1).2.2, oM 47 q (by omega) (by omega)]; exact z.2.2.1.symm
        · rw [(nz' 2).2.2, oM 48 q (by omega) (by omega)]; exact z.2.2.2.1.symm
        · rw [(nz' 3).2.2, oM 49 q (by omega) (by omega)]; exact z.2.2.2.2.1.symm
        · rw [(nz' 4).2.2, oM 50 q (by omega) (by omega)]; exact z.2.2.2.2.2.1.symm
        · rw [(nz' 5).2.2, oM 51 q (by omega) (by omega)]; exact z.2.2.2.2.2.2.1.symm
        · rw [(nz' 6).2.2, oM 52 q (by omega) (by omega)]; exact z.2.2.2.2.2.2.2.1.symm
        · rw [(nz' 7).2.2, oM 53 q (by omega) (by omega)]; exact z.2.2.2.2.2.2.2.2.1.symm
        · rw [(nz' 8).2.2, oM 54 q (by omega) (by omega)]; exact z.2.2.2.2.2.2.2.2.2.1.symm
        · rw [(nz' 9).2.2, oM 55 q (by omega) (by omega)]; exact z.2.2.2.2.2.2.2.2.2.2.symm
      · rw [(nz' 10).2.2, o43]; exact z.1.symm
    · rw [oM 40 q (by omega) (Or.inr e), oM 41 q (by omega) (Or.inr e), oM 42 q (by omega) (Or.inr e), o43, of' q e, oc q e]
      have o5 : ∀ j, hI h2 (5, q) j = hI h (5, q) j := fun j => oI _ _ (np _ (Or.inr e)) (by simp [KL]) (by simp)
      have o19 : ∀ j, hI h2 (19, q) j = hI h (19, q) j := fun j => oI _ _ (np _ (Or.inr e)) (by simp [KL]) (by simp)
      simp only [o5, o19, oM 46 q (by omega) (by omega), oM 47 q (by omega) (by omega), oM 48 q (by omega) (by omega), oM 49 q (by omega) (by omega), oM 50 q (by omega) (by omega), oM 51 q (by omega) (by omega), oM 52 q (by omega) (by omega), oM 53 q (by omega) (by omega), oM 54 q (by omega) (by omega), oM 55 q (by omega) (by omega)]
      refine ⟨fun z => ?_, fun z => (i.vp q hq).2 z⟩
      have y := (i.vp q hq).1 z
      refine ⟨y.1, y.2.1, fun e48 => ?_, y.2.2.2⟩
      rw [o12 (by omega), o12 (by omega)]
      exact y.2.2.1 e48
  · obtain ⟨p0, a, b, cc, u', k, hne⟩ := tp t ht
    have o10 : ∀ j, hI h2 (10, t) j = hI h (10, t) j := fun j => oI _ _ (np _ (Or.inl (by simp))) (by simp [KL]) (by simp)
    refine ⟨p0, a, b, cc, u', ?_⟩
    rw [o58, o59, o60, o61, o62, o63, o43, oM 40 p0 (by omega) (Or.inr hne), oM 64 t (by omega) (by omega), oM 66 t (by omega) (by omega), o10, o10, o10, o10, o10, o10]
    exact k
  · rw [oM 66 t (by omega) (by omega)]; exact i.vt.2 t ht
  · by_cases e : q = p
    · subst e
      rw [nv.2.2.2.2, olu]
      refine ⟨?_, fun l hl => ?_⟩
      · have : lvu (hI h) nt q = 0 := sm0 _ nt (fun t ht => if_neg (fun z => nt0 t ht z.1))
        rw [this]; rfl
      · have : lvl (hI h) nt q l = 0 := sm0 _ nt (fun t ht => if_neg (fun z => nt0 t ht z.1))
        rw [oll, this, (nz' l).1]; rfl
    · rw [oM 40 q (by omega) (Or.inr e)] at there
      have V := i.vv q hq there
      rw [olu, oI (5, q) 9 (np _ (Or.inr e)) (by simp [KL]) (by simp)]
      refine ⟨V.1, fun l hl => ?_⟩
      rw [oll, oI (17, q) l (np _ (Or.inr e)) (by simp [KL]) (by simp)]
      exact V.2 l hl
  · simp only [o58, otl, o65, o66]
    by_cases e : q = p
    · subst e
      exact ⟨fun t ht _ z => absurd z (nt0 t ht), fun _ => (nz' l).2.1⟩
    · rw [oM 40 q (by omega) (Or.inr e)] at there
      rw [oI (18, q) l (np _ (Or.inr e)) (by simp [KL]) (by simp)]
      exact i.vd q hq there l hl
  · obtain ⟨ca, dd, re, v1, v2, v3, v4, v5, v6⟩ := i.vm
    refine ⟨ca, dd, re, fun q hq => by rw [oM 50 q (by omega) (by omega)]; exact v1 q hq, fun q hq => by rw [oM 49 q (by omega) (by omega)]; exact v2 q hq, by rw [oI (12, 0) 22 (np _ (Or.inl (by simp))) (by simp [KL]) (by simp)]; exact v3, v4, fun q hq z => ?_, ?_⟩
    · rw [o43] at z
      rw [oM 51 q (by omega) (by omega), oM 52 q (by omega) (by omega), oM 53 q (by omega) (by omega), oM 54 q (by omega) (by omega)]
      exact v5 q hq z
    · simp only [o43, o58, o62]
      refine Nat.le_trans v6 (Nat.le_of_eq (sm_congr nt (fun t ht => ?_)))
      obtain ⟨p0, a, b, cc, u', k, hne⟩ := tp t ht
      have := k.p49
      rw [k.pool, cl_n (by omega), oM 42 p0 (by omega) (Or.inr hne)]
  · by_cases e : q = p
    · subst e
      rw [ef, ec, o43, oM 35 r1 (by omega) (by omega), s1]
      exact Or.inr ⟨(pv.2 c).1, fun z => absurd z.1 (by decide)⟩
    · rw [oM 40 q (by omega) (Or.inr e)] at there
      rw [of' q e, oc q e, o43, oM 35 _ (by omega) (by omega), oM 35 _ (by omega) (by omega)]
      exact i.vq q hq there
end NewPool
