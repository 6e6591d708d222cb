section Sold
variable {L : Nat} {xs : Nat → Int32} {nr nt : Nat} {v h g : xH}
theorem VW_mono {I : xN → Nat → Int32} {n n' : Nat} (hn : n ≤ n') (v : VW I n) : VW I n' := fun w hw => by
  rcases v w hw with z | ⟨z, m, a, b, c, d⟩
  · exact Or.inl z
  · refine Or.inr ⟨z, m, a, b, c, fun i hi => ?_⟩
    obtain ⟨d1, d2⟩ := d i hi
    refine ⟨d1, ?_⟩
    rcases d2 with d2 | ⟨d2, d3, t, d4, d5⟩ | d2
    · exact Or.inl d2
    · exact Or.inr (Or.inl ⟨d2, d3, t, by omega, d5⟩)
    · exact Or.inr (Or.inr d2)
theorem VX_mono {I : xN → Nat → Int32} {n n' : Nat} (hn : n ≤ n') (v : VX I n) : VX I n' := fun w hw => by
  rcases v w hw with z | ⟨z, m, f, a, b, c, d, e, e2, k⟩
  · exact Or.inl z
  · refine Or.inr ⟨z, m, f, a, b, c, d, e, e2, fun i hi => ?_⟩
    obtain ⟨d1, d2⟩ := k i hi
    exact ⟨d1, d2.imp id (fun ⟨t, d4, d5⟩ => ⟨t, by omega, d5⟩)⟩
theorem Inv.sold (i : Inv L xs nr nt h) (h200 : nt < 200) {p a b c u w l : Nat} {stk : Int32} (hp : p < 49) (there : hI h (40, 0) p = 1) (uns : hI h (43, 0) p = 0) (hl : l = lin (kf p) a b c)
    (ha : a ≤ 12) (hb : b ≤ 12) (hc : c ≤ 12) (u1 : 1 ≤ u) (u2 : u ≤ 1000) (fm : 1 ≤ a ∧ (kf p < 2 → b = 0) ∧ (2 ≤ kf p → 1 ≤ b) ∧ (kf p ≠ 3 → c = 0) ∧ (kf p = 3 → 1 ≤ c ∧ a ≠ b ∧ a ≠ c ∧ b ≠ c) ∧ (kf p = 2 → a < b)) {h2 : xH}
    (oI : ∀ n j, n ≠ (10, nt) → ¬ KL [((17, p), l), ((5, p), 9), ((19, p), 0), ((11, 0), 11), ((58, 0), nt), ((59, 0), nt), ((60, 0), nt), ((61, 0), nt), ((62, 0), nt), ((63, 0), nt), ((64, 0), nt), ((12, 0), 23), ((46, 0), p)] n j → hI h2 n j = hI h n j)
    (oR : ∀ n j, n ≠ (10, nt) → ¬ (n = (29, 0) ∧ j = nt) → hR h2 n j = hR h n j) (oS : ∀ n, n ≠ (10, nt) → hS h2 n = hS h n)
    (e17 : hI h2 (17, p) l = hI h (17, p) l + nI u) (e5 : hI h2 (5, p) 9 = hI h (5, p) 9 + nI u) (e19 : hI h2 (19, p) 0 = hI h (19, p) 0 + stk) (e46 : hI h2 (46, 0) p = hI h (46, 0) p + stk)
    (e11 : hI h2 (11, 0) 11 = nI (nt + 1)) (e23 : hI h2 (12, 0) 23 = nI (nt + 1)) (e29 : hR h2 (29, 0) nt = (10, nt)) (e10 : hR h2 (10, nt) 0 = (5, p))
    (tk : hI h2 (10, nt) 1 = nI w ∧ hI h2 (10, nt) 2 = nI u ∧ hI h2 (10, nt) 3 = nI a ∧ hI h2 (10, nt) 4 = nI b ∧ hI h2 (10, nt) 5 = nI c ∧ hI h2 (10, nt) 6 = 0)
    (tm : hI h2 (58, 0) nt = nI p ∧ hI h2 (59, 0) nt = nI a ∧ hI h2 (60, 0) nt = nI b ∧ hI h2 (61, 0) nt = nI c ∧ hI h2 (62, 0) nt = nI u ∧ hI h2 (63, 0) nt = 0 ∧ hI h2 (64, 0) nt = nI w) : Inv L xs nr (nt + 1) h2 := by
  have hnt := i.vc.2.1
  have K : ∀ n j, ¬ KK [10] [((17, p), l), ((5, p), 9), ((19, p), 0), ((11, 0), 11), ((58, 0), nt), ((59, 0), nt), ((60, 0), nt), ((61, 0), nt), ((62, 0), nt), ((63, 0), nt), ((64, 0), nt), ((12, 0), 23), ((46, 0), p)] n j → hI h2 n j = hI h n j := fun n j hk => oI n j (fun z => hk (Or.inl (by rw [z]; simp))) (fun z => hk (Or.inr z))
  have oM : ∀ k j, 34 ≤ k → (k < 58 ∧ k ≠ 46 ∨ 64 < k ∨ (k ≠ 46 ∧ j ≠ nt) ∨ (k = 46 ∧ j ≠ p)) → hI h2 (k, 0) j = hI h (k, 0) j := fun k j hk hj => oI _ _ (by simp; omega) (by simp [KL]; omega)
  have o12 : ∀ j, j ≠ 23 → hI h2 (12, 0) j = hI h (12, 0) j := fun j hj => oI _ _ (by simp) (by simp [KL, hj])
  have o10 : ∀ t j, t ≠ nt → hI h2 (10, t) j = hI h (10, t) j := fun t j ht => oI _ _ (by simp [ht]) (by simp [KL])
  have of' : ∀ q, frp (hI h2) q = frp (hI h) q := fun q => by unfold frp; rw [o12 10 (by omega)]
  have oc : ∀ q, scp (hI h2) q = scp (hI h) q := fun q => by unfold scp; rw [o12 11 (by omega)]
  have o43 : ∀ q, hI h2 (43, 0) q = hI h (43, 0) q := fun q => oM 43 q (by omega) (by omega)
  have o40 : ∀ q, hI h2 (40, 0) q = hI h (40, 0) q := fun q => oM 40 q (by omega) (by omega)
  have o42 : ∀ q, hI h2 (42, 0) q = hI h (42, 0) q := fun q => oM 42 q (by omega) (by omega)
  have o66 : ∀ q, hI h2 (66, 0) q = hI h (66, 0) q := fun q => oM 66 q (by omega) (by omega)
  have o65 : ∀ q, hI h2 (65, 0) q = hI h (65, 0) q := fun q => oM 65 q (by omega) (by omega)
  have ot : ∀ k t, 58 ≤ k → k ≤ 64 → t ≠ nt → hI h2 (k, 0) t = hI h (k, 0) t := fun k t h1 h2 h3 => oM k t (by omega) (by omega)
  have otl : ∀ t, t ≠ nt → tl (hI h2) t = tl (hI h) t := fun t ht => by unfold tl; rw [ot 58 t (by omega) (by omega) ht, ot 59 t (by omega) (by omega) ht, ot 60 t (by omega) (by omega) ht, ot 61 t (by omega) (by omega) ht]
  have etl : tl (hI h2) nt = l := by unfold tl; rw [tm.1, tm.2.1, tm.2.2.1, tm.2.2.2.1, cl_n (by omega), cl_n (by omega), cl_n (by omega), cl_n (by omega), hl]
  have olu : ∀ q, q < 49 → lvu (hI h2) (nt + 1) q = lvu (hI h) nt q + (if q = p then u else 0) := fun q hq => by
    have : lvu (hI h2) (nt + 1) q = sm (fun t => if hI h2 (58, 0) t = nI q ∧ hI h2 (63, 0) t = 0 then (hI h2 (62, 0) t).toNatClampNeg else 0) nt + (if hI h2 (58, 0) nt = nI q ∧ hI h2 (63, 0) nt = 0 then (hI h2 (62, 0) nt).toNatClampNeg else 0) := rfl
    rw [this, tm.1, tm.2.2.2.2.2.1, tm.2.2.2.2.1, cl_n (by omega)]
    congr 1
    · exact sm_congr nt (fun t ht => by rw [ot 58 t (by omega) (by omega) (by omega), ot 63 t (by omega) (by omega) (by omega), ot 62 t (by omega) (by omega) (by omega)])
    · by_cases e : q = p
      · rw [if_pos ⟨by rw [e], rfl⟩, if_pos e]
      · rw [if_neg (fun z => e ((nI_inj (by omega) (by omega)).mp z.1).symm), if_neg e]
  have oll : ∀ q l', q < 49 → lvl (hI h2) (nt + 1) q l' = lvl (hI h) nt q l' + (if q = p ∧ l' = l then u else 0) := fun q l' hq => by
    have : lvl (hI h2) (nt + 1) q l' = sm (fun t => if hI h2 (58, 0) t = nI q ∧ hI h2 (63, 0) t = 0 ∧ tl (hI h2) t = l' then (hI h2 (62, 0) t).toNatClampNeg else 0) nt + (if hI h2 (58, 0) nt = nI q ∧ hI h2 (63, 0) nt = 0 ∧ tl (hI h2) nt = l' then (hI h2 (62, 0) nt).toNatClampNeg else 0) := rfl
    rw [this, tm.1, tm.2.2.2.2.2.1, tm.2.2.2.2.1, cl_n (by omega), etl]
    congr 1
    · exact sm_congr nt (fun t ht => by rw [ot 58 t (by omega) (by omega) (by omega), ot 63 t (by omega) (by omega) (by omega), ot 62 t (by omega) (by omega) (by omega), otl t (by omega)])
    · by_cases e : q = p ∧ l' = l
      · rw [if_pos ⟨by rw [e.1], rfl, e.2.symm⟩, if_pos e]
      · rw [if_neg (fun z => e ⟨((nI_inj (by omega) (by omega)).mp z.1).symm, z.2.2.symm⟩), if_neg e]
  refine ⟨fr2 Sh_rs (S := hS h) (R := hR h) (fun n hn => oS n (fun z => by rw [z] at hn; cases hn)) (fun n j hn => oR n j (fun z => by rw [z] at hn; cases hn) (fun z => by rw [z.1] at hn; cases hn)) i.1, fr2 (C := fun S R => ShR S R nr) ShR_rs (S := hS h) (R := hR h) (fun n hn => oS n (fun z => by rw [z] at hn; cases hn)) (fun n j hn => oR n j (fun z => by rw [z] at hn; cases hn) (fun z => by rw [z.1] at hn; cases hn)) i.sr, fr3 (C := fun S R I => ShP S R I) ShP_rs3 (S := hS h) (R := hR h) (I := hI h) (fun n hn => oS n (fun z => by rw [z] at hn; cases hn)) (fun n j hn => oR n j (fun z => by rw [z] at hn; cases hn) (fun z => by rw [z.1] at hn; cases hn)) (KK_fr ⟨by repeat (first | exact List.forall_mem_nil _ | refine List.forall_mem_cons.mpr ⟨fun _ _ => rfl, ?_⟩), rfl⟩ K) i.sp, ⟨fun t ht => ?_, fun t ht ht2 => ?_⟩, ⟨by rw [oS _ (by simp)]; exact i.vs.1, fun j => by rw [K _ _ (by simp [KK])]; exact i.vs.2 j⟩, ⟨i.vc.1, by omega, by rw [K _ _ (by simp [KK])]; exact i.vc.2.2.1, by rw [o12 0 (by omega)]; exact i.vc.2.2.2.1, e11, e23⟩, (fr1 (C := fun I => VR I nr) (c := rdVR) (fun _ => rfl) (KK_fr ⟨by repeat (first | exact List.forall_mem_nil _ | refine List.forall_mem_cons.mpr ⟨fun _ _ => rfl, ?_⟩), rfl⟩ K) i.vr), (fr1 (C := fun I => VL I nr) (c := rdVL) (fun _ => rfl) (KK_fr ⟨by repeat (first | exact List.forall_mem_nil _ | refine List.forall_mem_cons.mpr ⟨fun _ _ => rfl, ?_⟩), rfl⟩ K) i.vl), (fr1 (C := fun I => VF I nr) (c := rdVF) (fun _ => rfl) (KK_fr ⟨by repeat (first | exact List.forall_mem_nil _ | refine List.forall_mem_cons.mpr ⟨fun _ _ => rfl, ?_⟩), rfl⟩ K) i.vf), fun q hq => ?_, ⟨fun t ht => ?_, fun t ht => ?_⟩, fun q hq th => ?_, fun q hq th l' hl' => ?_, ?_, (fr1 (C := fun I => VW I (nt + 1)) (c := rdVW) (fun _ => rfl) (KK_fr ⟨by repeat (first | exact List.forall_mem_nil _ | refine List.forall_mem_cons.mpr ⟨fun _ _ => rfl, ?_⟩), rfl⟩ K) (VW_mono (by omega) i.vw)), (fr1 (C := fun I => VX I (nt + 1)) (c := rdVX) (fun _ => rfl) (KK_fr ⟨by repeat (first | exact List.forall_mem_nil _ | refine List.forall_mem_cons.mpr ⟨fun _ _ => rfl, ?_⟩), rfl⟩ K) (VX_mono (by omega) i.vx)), (fr1 (C := VB) (c := rdVB) (fun _ => rfl) (KK_fr ⟨by repeat (first | exact List.forall_mem_nil _ | refine List.forall_mem_cons.mpr ⟨fun _ _ => rfl, ?_⟩), rfl⟩ K) i.vb), (fr1 (C := VN) (c := rdVN) (fun _ => rfl) (KK_fr ⟨by repeat (first | exact List.forall_mem_nil _ | refine List.forall_mem_cons.mpr ⟨fun _ _ => rfl, ?_⟩), rfl⟩ K) i.vn), mkq (fr1 (C := VQ) (c := rdVQ) (fun _ => rfl) (KK_fr ⟨by repeat (first | exact List.forall_mem_nil _ | refine List.forall_mem_cons.mpr ⟨fun _ _ => rfl, ?_⟩), rfl⟩ K) i.vq)⟩
  · by_cases e : t = nt
    · subst e
      rw [tm.1, cl_n (by omega)]
      exact ⟨e29, e10⟩
    · rw [oR (29, 0) t (by simp) (fun z => e z.2), oR (10, t) 0 (by simp [e]) (by simp), ot 58 t (by omega) (by omega) e]
      exact i.st.1 t (by omega)
  · rw [oS (10, t) (by simp; omega)]
    exact i.st.2 t (by omega) ht2
  · have P := i.vp q hq
    have o5 : ∀ j, j ≠ 9 → hI h2 (5, q) j = hI h (5, q) j := fun j hj => oI _ _ (by simp) (by simp [KL, hj])
    have o19 : ∀ j, (j ≠ 0 ∨ q ≠ p) → hI h2 (19, q) j = hI h (19, q) j := fun j hj => oI _ _ (by simp) (by simp [KL]; omega)
    rw [of', oc, o12 10 (by omega), o12 11 (by omega), o5 0 (by omega), o5 1 (by omega), o5 4 (by omega), o5 5 (by omega), o40, oM 41 q (by omega) (by omega), o42, o43, o19 1 (by omega), o19 2 (by omega), o19 3 (by omega), o19 4 (by omega), o19 5 (by omega), o19 6 (by omega), o19 7 (by omega), o19 8 (by omega), o19 9 (by omega), o19 10 (by omega), oM 47 q (by omega) (by omega), oM 48 q (by omega) (by omega), oM 49 q (by omega) (by omega), oM 50 q (by omega) (by omega), oM 51 q (by omega) (by omega), oM 52 q (by omega) (by omega), oM 53 q (by omega) (by omega), oM 54 q (by omega) (by omega), oM 55 q (by omega) (by omega)]
    by_cases e : q = p
    · subst e
      refine ⟨fun z => ?_, fun z => by rw [there] at z; exact absurd z (by decide)⟩
      obtain ⟨b1, b2, b3, b4, b5, b6, b7, b8, b9, ⟨c0, cr⟩, b11⟩ := P.1 z
      exact ⟨b1, b2, b3, b4, b5, b6, b7, b8, b9, ⟨by rw [e19, e46, c0], cr⟩, b11⟩
    · rw [o19 0 (Or.inr e), oM 46 q (by omega) (by omega)]
      exact P
  · by_cases e : t = nt
    · subst e
      have z66 := i.vt.2 t (Nat.le_refl _)
      refine ⟨p, a, b, c, u, ?_⟩
      rw [tm.1, tm.2.1, tm.2.2.1, tm.2.2.2.1, tm.2.2.2.2.1, tm.2.2.2.2.2.1, tm.2.2.2.2.2.2, tk.1, tk.2.1, tk.2.2.1, tk.2.2.2.1, tk.2.2.2.2.1, tk.2.2.2.2.2, o40, o43, o66, z66, uns]
      exact ⟨hp, rfl, there, ha, hb, hc, u1, u2, rfl, rfl, rfl, rfl, fm.1, fm.2.1, fm.2.2.1, fm.2.2.2.1, fm.2.2.2.2.1, fm.2.2.2.2.2, rfl, rfl, rfl, rfl, rfl, rfl, Or.inl rfl, Or.inr ⟨rfl, fun z => absurd z.1 (by decide), by decide⟩⟩
    · have := i.vt.1 t (by omega)
      simp only [o10 t _ e, ot 58 t (by omega) (by omega) e, ot 59 t (by omega) (by omega) e, ot 60 t (by omega) (by omega) e, ot 61 t (by omega) (by omega) e, ot 62 t (by omega) (by omega) e, ot 63 t (by omega) (by omega) e, ot 64 t (by omega) (by omega) e, o40, o43, o66]
      exact this
  · rw [o66]; exact i.vt.2 t (by omega)
  · rw [o40] at th
    have V := i.vv q hq th
    rw [olu q hq]
    refine ⟨?_, fun l' hl' => ?_⟩
    · by_cases e : q = p
      · subst e; rw [if_pos rfl, e5, V.1, nI_add]
      · rw [if_neg e, Nat.add_zero, oI (5, q) 9 (by simp) (by simp [KL, e])]; exact V.1
    · rw [oll q l' hq]
      by_cases e : q = p ∧ l' = l
      · rw [if_pos e, e.1, e.2, e17, ← nI_add]
        have := V.2 l' hl'
        rw [e.1, e.2] at this
        rw [this]
      · rw [if_neg e, Nat.add_zero, oI (17, q) l' (by simp) (by simp [KL]; omega)]; exact V.2 l' hl'
  · rw [o40] at th
    have D := i.vd q hq th l' hl'
    rw [oI (18, q) l' (by simp) (by simp [KL])]
    have z66 := i.vt.2 nt (Nat.le_refl _)
    refine ⟨fun t ht c1 c2 c3 => ?_, fun z => D.2 (fun t ht c1 c2 => ?_)⟩
    · rw [o66] at c1
      by_cases e : t = nt
      · rw [e, z66] at c1; exact absurd c1 (by decide)
      · rw [ot 58 t (by omega) (by omega) e] at c2
        rw [otl t e] at c3
        rw [o65]; exact D.1 t (by omega) c1 c2 c3
    · have := z t (by omega) (by rw [o66]; exact c1) (by rw [ot 58 t (by omega) (by omega) (by omega)]; exact c2)
      rw [otl t (by omega)] at this
      exact this
  · obtain ⟨ca, dd, re, v1, v2, v3, v4, v5, v6⟩ := i.vm
    refine ⟨ca, dd, re, fun q hq => by rw [oM 50 q (by omega) (by omega)]; exact v1 q hq, fun q hq => by rw [oM 49 q (by omega) (by omega)]; exact v2 q hq, by rw [o12 22 (by omega)]; exact v3, v4, fun q hq z => ?_, ?_⟩
    · rw [o43] at z
      rw [oM 51 q (by omega) (by omega), oM 52 q (by omega) (by omega), oM 53 q (by omega) (by omega), oM 54 q (by omega) (by omega)]
      exact v5 q hq z
    · simp only [o43, o42]
      refine Nat.le_trans v6 ?_
      show _ ≤ sm _ nt + _
      refine Nat.le_trans (Nat.le_of_eq (sm_congr nt (fun t ht => ?_))) (Nat.le_add_right _ _)
      rw [ot 58 t (by omega) (by omega) (by omega), ot 62 t (by omega) (by omega) (by omega)]
end Sold
