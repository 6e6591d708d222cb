section Count
variable {qq : Prop} {L : Nat} {xs : Nat → Int32} {nr nt : Nat} {v v0 h g : xH}
theorem sm_term {f : Nat → Nat} {t : Nat} : ∀ n, t < n → f t ≤ sm f n
  | 0, h => by omega
  | n + 1, h => by
    unfold sm
    by_cases e : t = n
    · rw [e]; omega
    · have := sm_term (f := f) (t := t) n (by omega); omega
theorem lvl_pos {I : xN → Nat → Int32} {t p a b c u : Nat} (ht : t < nt) (k : TkF I t p a b c u) (live : I (63, 0) t = 0) : 0 < lvl I nt p (tl I t) := by
  have h1 := k.u1; have h2 := k.u2
  have t1 := sm_term (f := fun t' => if I (58, 0) t' = nI p ∧ I (63, 0) t' = 0 ∧ tl I t' = tl I t then (I (62, 0) t').toNatClampNeg else 0) nt ht
  replace t1 : (if I (58, 0) t = nI p ∧ I (63, 0) t = 0 ∧ tl I t = tl I t then (I (62, 0) t).toNatClampNeg else 0) ≤ lvl I nt p (tl I t) := t1
  rw [if_pos ⟨k.pool, live, rfl⟩, k.eu, cl_n (by omega)] at t1
  omega
theorem cts_o {p : Nat} {gt : Nat → Int32} {B : xH} (t : Nat) {k j : Nat} (hk : k ≠ 65 ∧ k ≠ 66) : hI (cts p gt B t) (k, 0) j = hI B (k, 0) j := (cts_sm p gt B t).1 _ _ (fun z => by
  rcases z with z | z
  · have := congrArg Prod.fst z; simp at this; omega
  · have := congrArg Prod.fst z; simp at this; omega)
theorem w_count (i : InvQ qq L xs nr nt v) {B : xH} (kb : Sm KE v B) {p : Nat} (hp : p < 49) (s : SMx B g) {G n : Nat} {gl : Nat → Nat} {gt : Nat → Int32} (e41 : hI g (12, 0) 41 = nI n) (hn : n ≤ 2197) (gr : GR0 g (hI v) p nt 0 G gl) (hG : G ≤ 200) (d74 : n ≠ 0 → ∀ x, x < G → hI g (74, 0) x = gt (gl x)) (gt0 : n = 0 → ∀ l, gt l = 0) {K : xH → Prop} {Q : xH → Prop} (q : ∀ g', SMx (cts p gt B nt) g' → Sm (fun m _ => m = (66, 0) ∨ m = (65, 0)) g g' → K g') : ∃ f, p_M_settle_L128 (12, 0) (nI p) K Q f 0 g := by
  have hnt := i.vc.2.1
  have hk := kf_le (p := p)
  have m0 : ShM (hS g) (hR g) := by rw [s.2.1, s.2.2, kb.2.1, kb.2.2]; exact i.m
  have n0 : nI n = (0 : Int32) ↔ n = 0 := nI_inj (b := 0) (by omega) (by omega)
  have key : ∀ (m t : Nat) (g' : xH), t + m = nt → SMx (cts p gt B t) g' → Sm (fun m _ => m = (66, 0) ∨ m = (65, 0)) g g' → p_M_settle_L128 (12, 0) (nI p) K Q (m + 1) (nI t) g' := by
    intro m
    induction m with
    | zero =>
      intro t g' ht S z
      have : t = nt := by omega
      subst this
      have e23 : hI g' (12, 0) 23 = nI t := by
        rw [z.1 _ _ (by simp), s.1 _ _ (Or.inr rfl) (by simp [KSc]), kb.1 _ _ (ke_k (by omega))]; exact i.vc.2.2.2.2.2
      unfold p_M_settle_L128
      rw [e23, le_nn (by omega) (by omega)]
      exact ⟨rfl, fun _ => q g' S z, fun y => absurd (by omega) y⟩
    | succ m ih =>
      intro t g' ht S z
      have e23 : hI g' (12, 0) 23 = nI nt := by
        rw [z.1 _ _ (by simp), s.1 _ _ (Or.inr rfl) (by simp [KSc]), kb.1 _ _ (ke_k (by omega))]; exact i.vc.2.2.2.2.2
      obtain ⟨p', A, B', C, u, k⟩ := tkf i (t := t) (by omega)
      have hp' := k.p49
      have m' : ShM (hS g') (hR g') := by rw [z.2.1, z.2.2]; exact m0
      have ov : ∀ k j, (58 ≤ k ∧ k ≤ 64) → hI (cts p gt B t) (k, 0) j = hI v (k, 0) j := fun k j hk => by rw [cts_o t (by omega), kb.1 _ _ (ke_k (by omega))]
      have og : ∀ k j, (58 ≤ k ∧ k ≤ 64) → hI g' (k, 0) j = hI v (k, 0) j := fun k j hk => by rw [S.1 _ _ (Or.inl (show 34 ≤ k by omega)) (ksc_k (by omega)), ov k j hk]
      have et : tl (hI (cts p gt B t)) t = tl (hI v) t := by unfold tl; rw [ov 58 t (by omega), ov 59 t (by omega), ov 60 t (by omega), ov 61 t (by omega)]
      have st : cts p gt B (t + 1) = if hI v (58, 0) t = nI p ∧ hI v (63, 0) t = 0 then sI (sI (cts p gt B t) (66, 0) t 1) (65, 0) t (gt (tl (hI v) t)) else cts p gt B t := by
        show ct1 p gt (cts p gt B t) t = _
        unfold ct1
        rw [ov 58 t (by omega), ov 63 t (by omega), et]
      have e41' : hI g' (12, 0) 41 = nI n := by rw [z.1 _ _ (by simp)]; exact e41
      unfold p_M_settle_L128
      rw [e23, le_nn (by omega) (by omega), mR24 m', mS24 m', mR29 m', mS29 m', mR32 m', mS32 m', cl_n (by omega), og 58 t (by omega), og 63 t (by omega)]
      refine ⟨rfl, fun y => absurd y (by omega), fun _ => ⟨rfl, in_n (by omega) (by omega), fun c y hy => ?_, fun c => ⟨rfl, in_n (by omega) (by omega), fun c2 y hy => ?_, fun c2 => ⟨rfl, in_n (by omega) (by omega), fun h34 q34 => ?_⟩⟩⟩⟩
      · rw [hy, nI_1]
        refine ih (t + 1) g' (by omega) ?_ z
        rw [st, if_neg (fun w => c w.1)]; exact S
      · rw [hy, nI_1]
        refine ih (t + 1) g' (by omega) ?_ z
        rw [st, if_neg (fun w => c2 w.2)]; exact S
      have m34 : ShM (hS h34) (hR h34) := by rw [q34]; exact m'
      have z34 : Sm (fun m _ => m = (66, 0) ∨ m = (65, 0)) g h34 := by rw [q34]; exact z.si _ (Or.inl rfl)
      have e41'' : hI h34 (12, 0) 41 = nI n := by rw [z34.1 _ _ (by simp)]; exact e41
      have go : ∀ x, x = gt (tl (hI v) t) → ∀ h43, h43 = sI h34 (65, 0) t x → ∀ y : Int32, y = nI t + 1 → p_M_settle_L128 (12, 0) (nI p) K Q (m + 1) y h43 := fun x hx h43 q43 y hy => by
        rw [hy, nI_1]
        refine ih (t + 1) h43 (by omega) ?_ (by rw [q43]; exact z34.si _ (Or.inr rfl))
        rw [st, if_pos ⟨c, c2⟩, q43, hx, q34]
        exact (S.si _ _ _).si _ _ _
      rw [e41'', n0]
      refine ⟨fun nz => ?_, fun nz => ?_⟩
      · have e : p' = p := (nI_inj (by omega) (by omega)).mp (k.pool.symm.trans c)
        subst e
        have og34 : ∀ k j, (58 ≤ k ∧ k ≤ 64) → hI h34 (k, 0) j = hI v (k, 0) j := fun k j hk => by
          rw [q34, hI_sI, if_neg (fun w => by have := congrArg Prod.fst w.1; simp at this; omega)]; exact og k j hk
        have o7 : ∀ k j, 70 ≤ k → k ≤ 74 → hI h34 (k, 0) j = hI g (k, 0) j := fun k j h1 h2 => z34.1 _ _ (fun w => by
          rcases w with w | w
          · have := congrArg Prod.fst w; simp at this; omega
          · have := congrArg Prod.fst w; simp at this; omega)
        have lp := lvl_pos (nt := nt) (by omega) k c2
        rw [tl_eq k] at lp
        obtain ⟨r2, r3, r4⟩ := gr
        obtain ⟨x, hx, ex⟩ := r3.2.2 _ (lin_lt k.a12 k.b12 k.c12) lp
        replace ex : gl (0 + x) = lin (kf p') A B' C := ex
        rw [Nat.zero_add] at ex
        obtain ⟨A2, B2, C2, t2, f1, f2, f3, f4, -⟩ := r4 x (by omega) (by omega)
        obtain ⟨g1, g2, g3⟩ := (trp_eq hk t2 k.trp).mpr (f1.trans ex)
        refine w_groupOf m34 (G := G) (x := x) (a := nI A) (b := nI B') (c := nI C) (by omega) (by rw [og34 59 t (by omega)]; exact k.ea) (by rw [og34 60 t (by omega)]; exact k.eb) (by rw [og34 61 t (by omega)]; exact k.ec) (by omega) hG ⟨by rw [o7 70 x (by omega) (by omega), f2, g1], by rw [o7 71 x (by omega) (by omega), f3, g2], by rw [o7 72 x (by omega) (by omega), f4, g3]⟩ (fun y hy y1 y2 y3 => ?_)
        show _ ∧ _
        rw [mR40 m34, mS40 m34, mR31 m34, mS31 m34, cl_n (by omega), o7 74 y (by omega) (by omega)]
        refine ⟨rfl, in_n (by omega) (by omega), rfl, in_n (by omega) (by omega), go _ ?_⟩
        rw [d74 nz y hy, tl_eq k]
        obtain ⟨A3, B3, C3, t3, u1, u2, u3, u4, -⟩ := r4 y (by omega) hy
        have ha := k.a12; have hb := k.b12; have hc := k.c12
        have b1 := t3.1; have b2 := t3.2.1; have b3 := t3.2.2.1
        rw [o7 70 y (by omega) (by omega), u2, nI_inj (by omega) (by omega)] at y1
        rw [o7 71 y (by omega) (by omega), u3, nI_inj (by omega) (by omega)] at y2
        rw [o7 72 y (by omega) (by omega), u4, nI_inj (by omega) (by omega)] at y3
        rw [← u1, y1, y2, y3]
      · rw [mR31 m34, mS31 m34]
        exact ⟨rfl, in_n (by omega) (by omega), go 0 (gt0 nz _).symm⟩
  exact ⟨nt + 1, key nt 0 g (by omega) s (Sm.rf _ g)⟩
end Count
